/-! ===== which cells a function may write (on) ===== -/
set_option maxRecDepth 100000 in
set_option maxHeartbeats 4000000 in
theorem w_X11_turned_27 {sh : List gb_Sh} {g : gb_G}  {o : (gb_G × Int64)} (h : f_X11_turned_27 sh g = some o) : gb_Fr (fun c k => (c = 77 ∧ k = 0) ∨ (c = 77 ∧ k = 34) ∨ (c = 77 ∧ k = 38) ∨ (c = 77 ∧ k = 39) ∨ (c = 77 ∧ k = 40) ∨ (c = 77 ∧ k = 41) ∨ (c = 77 ∧ k = 42) ∨ c = 95 ∨ c = 97) g o.1 := by
  unfold f_X11_turned_27 at h
  have Fg : gb_Fr (fun c k => (c = 77 ∧ k = 0) ∨ (c = 77 ∧ k = 34) ∨ (c = 77 ∧ k = 38) ∨ (c = 77 ∧ k = 39) ∨ (c = 77 ∧ k = 40) ∨ (c = 77 ∧ k = 41) ∨ (c = 77 ∧ k = 42) ∨ c = 95 ∨ c = 97) g g := gb_Fr.rf
  cases h
  exact Fg
set_option maxRecDepth 100000 in
set_option maxHeartbeats 4000000 in
theorem w_X11_turned {sh : List gb_Sh} {x1 : Int32} {x2 : Int32} {g : gb_G}  {o : (gb_G × Int64)} (h : f_X11_turned sh g x1 x2 = some o) : gb_Fr (fun c k => (c = 77 ∧ k = 0) ∨ (c = 77 ∧ k = 34) ∨ (c = 77 ∧ k = 38) ∨ (c = 77 ∧ k = 39) ∨ (c = 77 ∧ k = 40) ∨ (c = 77 ∧ k = 41) ∨ (c = 77 ∧ k = 42) ∨ c = 95 ∨ c = 97) g o.1 := by
  unfold f_X11_turned at h
  have Fg : gb_Fr (fun c k => (c = 77 ∧ k = 0) ∨ (c = 77 ∧ k = 34) ∨ (c = 77 ∧ k = 38) ∨ (c = 77 ∧ k = 39) ∨ (c = 77 ∧ k = 40) ∨ (c = 77 ∧ k = 41) ∨ (c = 77 ∧ k = 42) ∨ c = 95 ∨ c = 97) g g := gb_Fr.rf
  obtain ⟨g1, eg1, h⟩ := gb_let_x h
  have Fg1 := gb_Fr.tr Fg (gb_Fr.pi (Or.inl (⟨rfl, rfl⟩)) eg1)
  obtain ⟨r2, er2, h⟩ := gb_bd_e h
  have Fr2 := gb_Fr.tr Fg1 (gb_Fr.up (w_X11_in er2) (fun _ _ hw => hw.elim))
  rcases gb_ite_e h with h | h
  · exact gb_Fr.tr Fr2 (w_X11_turned_27 h)
  · obtain ⟨r4, er4, h⟩ := gb_bd_e h
    have Fr4 := gb_Fr.tr Fr2 (gb_Fr.up (w_X11_in er4) (fun _ _ hw => hw.elim))
    rcases gb_ite_e h with h | h
    · exact gb_Fr.tr Fr4 (w_X11_turned_27 h)
    · obtain ⟨r6, er6, h⟩ := gb_bd_e h
      have Fr6 := gb_Fr.tr Fr4 (gb_Fr.up (w_X11_figureBy er6) (fun _ _ hw => hw.elim (fun h0 => Or.inr (Or.inl (h0))) (fun h0 => h0.elim (fun h1 => Or.inr (Or.inr (Or.inl (h1)))) (fun h1 => h1.elim (fun h2 => Or.inr (Or.inr (Or.inr (Or.inl (h2))))) (fun h2 => h2.elim (fun h3 => Or.inr (Or.inr (Or.inr (Or.inr (Or.inl (h3)))))) (fun h3 => h3.elim (fun h4 => Or.inr (Or.inr (Or.inr (Or.inr (Or.inr (Or.inl (h4))))))) (fun h4 => h4.elim (fun h5 => Or.inr (Or.inr (Or.inr (Or.inr (Or.inr (Or.inr (Or.inl (h5)))))))) (fun h5 => h5.elim (fun h6 => Or.inr (Or.inr (Or.inr (Or.inr (Or.inr (Or.inr (Or.inr (Or.inl (h6))))))))) (fun h6 => Or.inr (Or.inr (Or.inr (Or.inr (Or.inr (Or.inr (Or.inr (Or.inr (h6)))))))))))))))))
      obtain ⟨r8, er8, h⟩ := gb_bd_e h
      have Fr8 := gb_Fr.tr Fr6 (gb_Fr.up (w_X11_figureBy er8) (fun _ _ hw => hw.elim (fun h0 => Or.inr (Or.inl (h0))) (fun h0 => h0.elim (fun h1 => Or.inr (Or.inr (Or.inl (h1)))) (fun h1 => h1.elim (fun h2 => Or.inr (Or.inr (Or.inr (Or.inl (h2))))) (fun h2 => h2.elim (fun h3 => Or.inr (Or.inr (Or.inr (Or.inr (Or.inl (h3)))))) (fun h3 => h3.elim (fun h4 => Or.inr (Or.inr (Or.inr (Or.inr (Or.inr (Or.inl (h4))))))) (fun h4 => h4.elim (fun h5 => Or.inr (Or.inr (Or.inr (Or.inr (Or.inr (Or.inr (Or.inl (h5)))))))) (fun h5 => h5.elim (fun h6 => Or.inr (Or.inr (Or.inr (Or.inr (Or.inr (Or.inr (Or.inr (Or.inl (h6))))))))) (fun h6 => Or.inr (Or.inr (Or.inr (Or.inr (Or.inr (Or.inr (Or.inr (Or.inr (h6)))))))))))))))))
      obtain ⟨r10, er10, h⟩ := gb_bd_e h
      have Fr10 := gb_Fr.tr Fr8 (gb_Fr.up (w_X11_lowest er10) (fun _ _ hw => hw.elim (fun h0 => Or.inr (Or.inr (Or.inr (Or.inr (Or.inr (Or.inl (h0))))))) (fun h0 => Or.inr (Or.inr (Or.inr (Or.inr (Or.inr (Or.inr (Or.inl (h0))))))))))
      rcases gb_ite_e h with h | h
      · cases h
        exact Fr10
      · cases h
        exact Fr10
set_option maxRecDepth 100000 in
set_option maxHeartbeats 4000000 in
theorem w_X11_pensionNow {sh : List gb_Sh} {g : gb_G}  {o : (gb_G × Int32)} (h : f_X11_pensionNow sh g = some o) : gb_Fr (fun c k => (c = 77 ∧ k = 34) ∨ (c = 77 ∧ k = 38) ∨ (c = 77 ∧ k = 39) ∨ (c = 77 ∧ k = 40) ∨ (c = 77 ∧ k = 41) ∨ (c = 77 ∧ k = 42) ∨ c = 95 ∨ c = 97) g o.1 := by
  unfold f_X11_pensionNow at h
  have Fg : gb_Fr (fun c k => (c = 77 ∧ k = 34) ∨ (c = 77 ∧ k = 38) ∨ (c = 77 ∧ k = 39) ∨ (c = 77 ∧ k = 40) ∨ (c = 77 ∧ k = 41) ∨ (c = 77 ∧ k = 42) ∨ c = 95 ∨ c = 97) g g := gb_Fr.rf
  obtain ⟨r1, er1, h⟩ := gb_bd_e h
  have Fr1 := gb_Fr.tr Fg (gb_Fr.up (w_X11_figureBy er1) (fun _ _ hw => hw.elim (fun h0 => Or.inl (h0)) (fun h0 => h0.elim (fun h1 => Or.inr (Or.inl (h1))) (fun h1 => h1.elim (fun h2 => Or.inr (Or.inr (Or.inl (h2)))) (fun h2 => h2.elim (fun h3 => Or.inr (Or.inr (Or.inr (Or.inl (h3))))) (fun h3 => h3.elim (fun h4 => Or.inr (Or.inr (Or.inr (Or.inr (Or.inl (h4)))))) (fun h4 => h4.elim (fun h5 => Or.inr (Or.inr (Or.inr (Or.inr (Or.inr (Or.inl (h5))))))) (fun h5 => h5.elim (fun h6 => Or.inr (Or.inr (Or.inr (Or.inr (Or.inr (Or.inr (Or.inl (h6)))))))) (fun h6 => Or.inr (Or.inr (Or.inr (Or.inr (Or.inr (Or.inr (Or.inr (h6))))))))))))))))
  rcases gb_ite_e h with h | h
  · cases h
    exact Fr1
  · obtain ⟨-, h⟩ := gb_nzl_e h
    cases h
    exact Fr1
set_option maxRecDepth 100000 in
set_option maxHeartbeats 4000000 in
theorem w_X11_pension {sh : List gb_Sh} {g : gb_G}  {o : (gb_G × Int32)} (h : f_X11_pension sh g = some o) : gb_Fr (fun c k => (c = 77 ∧ k = 0) ∨ (c = 77 ∧ k = 34) ∨ (c = 77 ∧ k = 38) ∨ (c = 77 ∧ k = 39) ∨ (c = 77 ∧ k = 40) ∨ (c = 77 ∧ k = 41) ∨ (c = 77 ∧ k = 42) ∨ c = 95 ∨ c = 97) g o.1 := by
  unfold f_X11_pension at h
  have Fg : gb_Fr (fun c k => (c = 77 ∧ k = 0) ∨ (c = 77 ∧ k = 34) ∨ (c = 77 ∧ k = 38) ∨ (c = 77 ∧ k = 39) ∨ (c = 77 ∧ k = 40) ∨ (c = 77 ∧ k = 41) ∨ (c = 77 ∧ k = 42) ∨ c = 95 ∨ c = 97) g g := gb_Fr.rf
  obtain ⟨g1, eg1, h⟩ := gb_let_x h
  have Fg1 := gb_Fr.tr Fg (gb_Fr.pi (Or.inl (⟨rfl, rfl⟩)) eg1)
  obtain ⟨r2, er2, h⟩ := gb_bd_e h
  have Fr2 := gb_Fr.tr Fg1 (gb_Fr.up (w_X11_pensionNow er2) (fun _ _ hw => hw.elim (fun h0 => Or.inr (Or.inl (h0))) (fun h0 => h0.elim (fun h1 => Or.inr (Or.inr (Or.inl (h1)))) (fun h1 => h1.elim (fun h2 => Or.inr (Or.inr (Or.inr (Or.inl (h2))))) (fun h2 => h2.elim (fun h3 => Or.inr (Or.inr (Or.inr (Or.inr (Or.inl (h3)))))) (fun h3 => h3.elim (fun h4 => Or.inr (Or.inr (Or.inr (Or.inr (Or.inr (Or.inl (h4))))))) (fun h4 => h4.elim (fun h5 => Or.inr (Or.inr (Or.inr (Or.inr (Or.inr (Or.inr (Or.inl (h5)))))))) (fun h5 => h5.elim (fun h6 => Or.inr (Or.inr (Or.inr (Or.inr (Or.inr (Or.inr (Or.inr (Or.inl (h6))))))))) (fun h6 => Or.inr (Or.inr (Or.inr (Or.inr (Or.inr (Or.inr (Or.inr (Or.inr (h6)))))))))))))))))
  cases h
  exact Fr2
set_option maxRecDepth 100000 in
set_option maxHeartbeats 4000000 in
theorem w_X11_thousandths {sh : List gb_Sh} {x1 : Int32} {g : gb_G}  {o : (gb_G × Int32)} (h : f_X11_thousandths sh g x1 = some o) : gb_Fr (fun c k => (c = 77 ∧ k = 34) ∨ (c = 77 ∧ k = 38) ∨ (c = 77 ∧ k = 39) ∨ (c = 77 ∧ k = 40) ∨ (c = 77 ∧ k = 41) ∨ (c = 77 ∧ k = 42) ∨ c = 95 ∨ c = 97) g o.1 := by
  unfold f_X11_thousandths at h
  have Fg : gb_Fr (fun c k => (c = 77 ∧ k = 34) ∨ (c = 77 ∧ k = 38) ∨ (c = 77 ∧ k = 39) ∨ (c = 77 ∧ k = 40) ∨ (c = 77 ∧ k = 41) ∨ (c = 77 ∧ k = 42) ∨ c = 95 ∨ c = 97) g g := gb_Fr.rf
  obtain ⟨r1, er1, h⟩ := gb_bd_e h
  have Fr1 := gb_Fr.tr Fg (gb_Fr.up (w_X11_figureBy er1) (fun _ _ hw => hw.elim (fun h0 => Or.inl (h0)) (fun h0 => h0.elim (fun h1 => Or.inr (Or.inl (h1))) (fun h1 => h1.elim (fun h2 => Or.inr (Or.inr (Or.inl (h2)))) (fun h2 => h2.elim (fun h3 => Or.inr (Or.inr (Or.inr (Or.inl (h3))))) (fun h3 => h3.elim (fun h4 => Or.inr (Or.inr (Or.inr (Or.inr (Or.inl (h4)))))) (fun h4 => h4.elim (fun h5 => Or.inr (Or.inr (Or.inr (Or.inr (Or.inr (Or.inl (h5))))))) (fun h5 => h5.elim (fun h6 => Or.inr (Or.inr (Or.inr (Or.inr (Or.inr (Or.inr (Or.inl (h6)))))))) (fun h6 => Or.inr (Or.inr (Or.inr (Or.inr (Or.inr (Or.inr (Or.inr (h6))))))))))))))))
  obtain ⟨-, h⟩ := gb_nzl_e h
  cases h
  exact Fr1
set_option maxRecDepth 100000 in
set_option maxHeartbeats 4000000 in
theorem w_X11_does {sh : List gb_Sh} {x1 : Int32} {g : gb_G}  {o : (gb_G × Int32)} (h : f_X11_does sh g x1 = some o) : gb_Fr (fun c k => (c = 77 ∧ k = 0) ∨ (c = 77 ∧ k = 34) ∨ (c = 77 ∧ k = 38) ∨ (c = 77 ∧ k = 39) ∨ (c = 77 ∧ k = 40) ∨ (c = 77 ∧ k = 41) ∨ (c = 77 ∧ k = 42) ∨ c = 95 ∨ c = 97) g o.1 := by
  unfold f_X11_does at h
  have Fg : gb_Fr (fun c k => (c = 77 ∧ k = 0) ∨ (c = 77 ∧ k = 34) ∨ (c = 77 ∧ k = 38) ∨ (c = 77 ∧ k = 39) ∨ (c = 77 ∧ k = 40) ∨ (c = 77 ∧ k = 41) ∨ (c = 77 ∧ k = 42) ∨ c = 95 ∨ c = 97) g g := gb_Fr.rf
  obtain ⟨g1, eg1, h⟩ := gb_let_x h
  have Fg1 := gb_Fr.tr Fg (gb_Fr.pi (Or.inl (⟨rfl, rfl⟩)) eg1)
  obtain ⟨r2, er2, h⟩ := gb_bd_e h
  have Fr2 := gb_Fr.tr Fg1 (gb_Fr.up (w_X11_isGood er2) (fun _ _ hw => hw.elim))
  rcases gb_ite_e h with h | h
  · cases h
    exact Fr2
  · obtain ⟨r4, er4, h⟩ := gb_bd_e h
    have Fr4 := gb_Fr.tr Fr2 (gb_Fr.up (w_X11_thousandths er4) (fun _ _ hw => hw.elim (fun h0 => Or.inr (Or.inl (h0))) (fun h0 => h0.elim (fun h1 => Or.inr (Or.inr (Or.inl (h1)))) (fun h1 => h1.elim (fun h2 => Or.inr (Or.inr (Or.inr (Or.inl (h2))))) (fun h2 => h2.elim (fun h3 => Or.inr (Or.inr (Or.inr (Or.inr (Or.inl (h3)))))) (fun h3 => h3.elim (fun h4 => Or.inr (Or.inr (Or.inr (Or.inr (Or.inr (Or.inl (h4))))))) (fun h4 => h4.elim (fun h5 => Or.inr (Or.inr (Or.inr (Or.inr (Or.inr (Or.inr (Or.inl (h5)))))))) (fun h5 => h5.elim (fun h6 => Or.inr (Or.inr (Or.inr (Or.inr (Or.inr (Or.inr (Or.inr (Or.inl (h6))))))))) (fun h6 => Or.inr (Or.inr (Or.inr (Or.inr (Or.inr (Or.inr (Or.inr (Or.inr (h6)))))))))))))))))
    obtain ⟨r6, er6, h⟩ := gb_bd_e h
    have Fr6 := gb_Fr.tr Fr4 (gb_Fr.up (w_X11_thousandths er6) (fun _ _ hw => hw.elim (fun h0 => Or.inr (Or.inl (h0))) (fun h0 => h0.elim (fun h1 => Or.inr (Or.inr (Or.inl (h1)))) (fun h1 => h1.elim (fun h2 => Or.inr (Or.inr (Or.inr (Or.inl (h2))))) (fun h2 => h2.elim (fun h3 => Or.inr (Or.inr (Or.inr (Or.inr (Or.inl (h3)))))) (fun h3 => h3.elim (fun h4 => Or.inr (Or.inr (Or.inr (Or.inr (Or.inr (Or.inl (h4))))))) (fun h4 => h4.elim (fun h5 => Or.inr (Or.inr (Or.inr (Or.inr (Or.inr (Or.inr (Or.inl (h5)))))))) (fun h5 => h5.elim (fun h6 => Or.inr (Or.inr (Or.inr (Or.inr (Or.inr (Or.inr (Or.inr (Or.inl (h6))))))))) (fun h6 => Or.inr (Or.inr (Or.inr (Or.inr (Or.inr (Or.inr (Or.inr (Or.inr (h6)))))))))))))))))
    cases h
    exact Fr6
set_option maxRecDepth 100000 in
set_option maxHeartbeats 4000000 in
theorem w_X11_compare {sh : List gb_Sh} {x1 : Int32} {g : gb_G}  {o : (gb_G × Int32)} (h : f_X11_compare sh g x1 = some o) : gb_Fr (fun c k => (c = 77 ∧ k = 0) ∨ (c = 77 ∧ k = 34) ∨ (c = 77 ∧ k = 38) ∨ (c = 77 ∧ k = 39) ∨ (c = 77 ∧ k = 40) ∨ (c = 77 ∧ k = 41) ∨ (c = 77 ∧ k = 42) ∨ c = 79 ∨ c = 95 ∨ c = 97) g o.1 := by
  unfold f_X11_compare at h
  have Fg : gb_Fr (fun c k => (c = 77 ∧ k = 0) ∨ (c = 77 ∧ k = 34) ∨ (c = 77 ∧ k = 38) ∨ (c = 77 ∧ k = 39) ∨ (c = 77 ∧ k = 40) ∨ (c = 77 ∧ k = 41) ∨ (c = 77 ∧ k = 42) ∨ c = 79 ∨ c = 95 ∨ c = 97) g g := gb_Fr.rf
  obtain ⟨g1, eg1, h⟩ := gb_let_x h
  have Fg1 := gb_Fr.tr Fg (gb_Fr.pi (Or.inl (⟨rfl, rfl⟩)) eg1)
  obtain ⟨r2, er2, h⟩ := gb_bd_e h
  have Fr2 := gb_Fr.tr Fg1 (gb_Fr.up (w_X11_isLaw er2) (fun _ _ hw => hw.elim))
  rcases gb_ite_e h with h | h
  · cases h
    exact Fr2
  · obtain ⟨g4, eg4, h⟩ := gb_let_x h
    have Fg4 := gb_Fr.tr Fr2 (gb_Fr.pi (Or.inr (Or.inr (Or.inr (Or.inr (Or.inr (Or.inr (Or.inr (Or.inl (rfl))))))))) eg4)
    obtain ⟨r5, er5, h⟩ := gb_bd_e h
    have Fr5 := gb_Fr.tr Fg4 (gb_Fr.up (w_X11_thousandths er5) (fun _ _ hw => hw.elim (fun h0 => Or.inr (Or.inl (h0))) (fun h0 => h0.elim (fun h1 => Or.inr (Or.inr (Or.inl (h1)))) (fun h1 => h1.elim (fun h2 => Or.inr (Or.inr (Or.inr (Or.inl (h2))))) (fun h2 => h2.elim (fun h3 => Or.inr (Or.inr (Or.inr (Or.inr (Or.inl (h3)))))) (fun h3 => h3.elim (fun h4 => Or.inr (Or.inr (Or.inr (Or.inr (Or.inr (Or.inl (h4))))))) (fun h4 => h4.elim (fun h5 => Or.inr (Or.inr (Or.inr (Or.inr (Or.inr (Or.inr (Or.inl (h5)))))))) (fun h5 => h5.elim (fun h6 => Or.inr (Or.inr (Or.inr (Or.inr (Or.inr (Or.inr (Or.inr (Or.inr (Or.inl (h6)))))))))) (fun h6 => Or.inr (Or.inr (Or.inr (Or.inr (Or.inr (Or.inr (Or.inr (Or.inr (Or.inr (h6))))))))))))))))))
    obtain ⟨g7, eg7, h⟩ := gb_let_x h
    have Fg7 := gb_Fr.tr Fr5 (gb_Fr.pi (Or.inr (Or.inr (Or.inr (Or.inr (Or.inr (Or.inr (Or.inr (Or.inl (rfl))))))))) eg7)
    cases h
    exact Fg7
set_option maxRecDepth 100000 in
set_option maxHeartbeats 4000000 in
theorem w_X11_leastBy_33 {sh : List gb_Sh} {y1 : Int32} {y3 : Int32} {z0 : Int32} {z1 : Int32} {g : gb_G}  {o : (gb_G × Int32)} (h : f_X11_leastBy_33 sh g y1 y3 z0 z1 = some o) : gb_Fr (fun c k => (c = 77 ∧ k = 34) ∨ (c = 77 ∧ k = 38) ∨ (c = 77 ∧ k = 39) ∨ (c = 77 ∧ k = 40) ∨ c = 95 ∨ c = 97) g o.1 := by
  unfold f_X11_leastBy_33 at h
  have Fg : gb_Fr (fun c k => (c = 77 ∧ k = 34) ∨ (c = 77 ∧ k = 38) ∨ (c = 77 ∧ k = 39) ∨ (c = 77 ∧ k = 40) ∨ c = 95 ∨ c = 97) g g := gb_Fr.rf
  obtain ⟨-, h⟩ := gb_ck_e h
  rcases gb_ite_e h with h | h
  · cases h
    exact Fg
  · obtain ⟨-, h⟩ := gb_ck_e h
    cases h
    exact Fg
set_option maxRecDepth 100000 in
set_option maxHeartbeats 4000000 in
theorem w_X11_leastBy {sh : List gb_Sh} {x1 : Int32} {x2 : Int32} {x3 : Int32} {g : gb_G}  {o : (gb_G × Int32)} (h : f_X11_leastBy sh g x1 x2 x3 = some o) : gb_Fr (fun c k => (c = 77 ∧ k = 34) ∨ (c = 77 ∧ k = 38) ∨ (c = 77 ∧ k = 39) ∨ (c = 77 ∧ k = 40) ∨ c = 95 ∨ c = 97) g o.1 := by
  unfold f_X11_leastBy at h
  have Fg : gb_Fr (fun c k => (c = 77 ∧ k = 34) ∨ (c = 77 ∧ k = 38) ∨ (c = 77 ∧ k = 39) ∨ (c = 77 ∧ k = 40) ∨ c = 95 ∨ c = 97) g g := gb_Fr.rf
  obtain ⟨r1, er1, h⟩ := gb_bd_e h
  have Fr1 := gb_Fr.tr Fg (gb_Fr.up (w_X11_gladsOf er1) (fun _ _ hw => hw.elim (fun h0 => Or.inl (h0)) (fun h0 => h0.elim (fun h1 => Or.inr (Or.inl (h1))) (fun h1 => h1.elim (fun h2 => Or.inr (Or.inr (Or.inl (h2)))) (fun h2 => h2.elim (fun h3 => Or.inr (Or.inr (Or.inr (Or.inl (h3))))) (fun h3 => h3.elim (fun h4 => Or.inr (Or.inr (Or.inr (Or.inr (Or.inl (h4)))))) (fun h4 => Or.inr (Or.inr (Or.inr (Or.inr (Or.inr (h4))))))))))))
  rcases gb_ite_e h with h | h
  · exact gb_Fr.tr Fr1 (w_X11_leastBy_33 h)
  · exact gb_Fr.tr Fr1 (w_X11_leastBy_33 h)
set_option maxRecDepth 100000 in
set_option maxHeartbeats 4000000 in
theorem w_X11_mostOf {sh : List gb_Sh} {x1 : Int32} {g : gb_G}  {o : (gb_G × Int32)} (h : f_X11_mostOf sh g x1 = some o) : gb_Fr (fun c k => (c = 77 ∧ k = 34) ∨ (c = 77 ∧ k = 38) ∨ (c = 77 ∧ k = 39) ∨ (c = 77 ∧ k = 40) ∨ c = 95 ∨ c = 97) g o.1 := by
  unfold f_X11_mostOf at h
  have Fg : gb_Fr (fun c k => (c = 77 ∧ k = 34) ∨ (c = 77 ∧ k = 38) ∨ (c = 77 ∧ k = 39) ∨ (c = 77 ∧ k = 40) ∨ c = 95 ∨ c = 97) g g := gb_Fr.rf
  obtain ⟨-, h⟩ := gb_ck_e h
  rcases gb_ite_e h with h | h
  · cases h
    exact Fg
  · obtain ⟨r2, er2, h⟩ := gb_bd_e h
    have Fr2 := gb_Fr.tr Fg (gb_Fr.up (w_X11_isBarred er2) (fun _ _ hw => hw.elim (fun h0 => Or.inl (h0)) (fun h0 => h0.elim (fun h1 => Or.inr (Or.inl (h1))) (fun h1 => h1.elim (fun h2 => Or.inr (Or.inr (Or.inl (h2)))) (fun h2 => h2.elim (fun h3 => Or.inr (Or.inr (Or.inr (Or.inl (h3))))) (fun h3 => h3.elim (fun h4 => Or.inr (Or.inr (Or.inr (Or.inr (Or.inl (h4)))))) (fun h4 => Or.inr (Or.inr (Or.inr (Or.inr (Or.inr (h4))))))))))))
    rcases gb_ite_e h with h | h
    · cases h
      exact Fr2
    · cases h
      exact Fr2
set_option maxRecDepth 100000 in
set_option maxHeartbeats 4000000 in
theorem w_X11_glad_196 {sh : List gb_Sh} {y1 : Int32} {g : gb_G}  {o : (gb_G × Int32)} (h : f_X11_glad_196 sh g y1 = some o) : gb_Fr (fun c k => (c = 77 ∧ k = 0) ∨ (c = 77 ∧ k = 34) ∨ (c = 77 ∧ k = 38) ∨ (c = 77 ∧ k = 39) ∨ (c = 77 ∧ k = 40) ∨ c = 95 ∨ c = 97 ∨ c = 98) g o.1 := by
  unfold f_X11_glad_196 at h
  have Fg : gb_Fr (fun c k => (c = 77 ∧ k = 0) ∨ (c = 77 ∧ k = 34) ∨ (c = 77 ∧ k = 38) ∨ (c = 77 ∧ k = 39) ∨ (c = 77 ∧ k = 40) ∨ c = 95 ∨ c = 97 ∨ c = 98) g g := gb_Fr.rf
  obtain ⟨-, h⟩ := gb_ck_e h
  rcases gb_ite_e h with h | h
  · cases h
    exact Fg
  · obtain ⟨-, h⟩ := gb_ck_e h
    cases h
    exact Fg
set_option maxRecDepth 100000 in
set_option maxHeartbeats 4000000 in
theorem w_X11_glad_294 {sh : List gb_Sh} {K228 : gb_G → Int32 → Int32 → Int32 → Int32 → Option (gb_G × Int32)} {y2 : Int32} {y5 : Int32} {y6 : Int32} {z0 : Int32} {g : gb_G} (hK228 : ∀ {a0 : gb_G} {a1 : Int32} {a2 : Int32} {a3 : Int32} {a4 : Int32} {o : (gb_G × Int32)}, K228 a0 a1 a2 a3 a4 = some o → gb_Fr (fun c k => (c = 77 ∧ k = 0) ∨ (c = 77 ∧ k = 34) ∨ (c = 77 ∧ k = 38) ∨ (c = 77 ∧ k = 39) ∨ (c = 77 ∧ k = 40) ∨ c = 95 ∨ c = 97 ∨ c = 98) a0 o.1) {o : (gb_G × Int32)} (h : f_X11_glad_294 sh K228 g y2 y5 y6 z0 = some o) : gb_Fr (fun c k => (c = 77 ∧ k = 0) ∨ (c = 77 ∧ k = 34) ∨ (c = 77 ∧ k = 38) ∨ (c = 77 ∧ k = 39) ∨ (c = 77 ∧ k = 40) ∨ c = 95 ∨ c = 97 ∨ c = 98) g o.1 := by
  unfold f_X11_glad_294 at h
  have Fg : gb_Fr (fun c k => (c = 77 ∧ k = 0) ∨ (c = 77 ∧ k = 34) ∨ (c = 77 ∧ k = 38) ∨ (c = 77 ∧ k = 39) ∨ (c = 77 ∧ k = 40) ∨ c = 95 ∨ c = 97 ∨ c = 98) g g := gb_Fr.rf
  exact gb_Fr.tr Fg (hK228 h)
set_option maxRecDepth 100000 in
set_option maxHeartbeats 4000000 in
theorem w_X11_glad_237 {sh : List gb_Sh} {K228 : gb_G → Int32 → Int32 → Int32 → Int32 → Option (gb_G × Int32)} (hK228 : ∀ {a0 : gb_G} {a1 : Int32} {a2 : Int32} {a3 : Int32} {a4 : Int32} {o : (gb_G × Int32)}, K228 a0 a1 a2 a3 a4 = some o → gb_Fr (fun c k => (c = 77 ∧ k = 0) ∨ (c = 77 ∧ k = 34) ∨ (c = 77 ∧ k = 38) ∨ (c = 77 ∧ k = 39) ∨ (c = 77 ∧ k = 40) ∨ c = 95 ∨ c = 97 ∨ c = 98) a0 o.1) : ∀ (n : Nat) {g : gb_G} {y2 : Int32} {y4 : Int32} {y5 : Int32} {y6 : Int32} {o : (gb_G × Int32)} (h : f_X11_glad_237 sh K228 n g y2 y4 y5 y6 = some o), gb_Fr (fun c k => (c = 77 ∧ k = 0) ∨ (c = 77 ∧ k = 34) ∨ (c = 77 ∧ k = 38) ∨ (c = 77 ∧ k = 39) ∨ (c = 77 ∧ k = 40) ∨ c = 95 ∨ c = 97 ∨ c = 98) g o.1 := by
  intro n
  induction n with
  | zero => intro g y2 y4 y5 y6 o h; cases h
  | succ n ih =>
    intro g y2 y4 y5 y6 o h
    rw [f_X11_glad_237] at h
    have Fg : gb_Fr (fun c k => (c = 77 ∧ k = 0) ∨ (c = 77 ∧ k = 34) ∨ (c = 77 ∧ k = 38) ∨ (c = 77 ∧ k = 39) ∨ (c = 77 ∧ k = 40) ∨ c = 95 ∨ c = 97 ∨ c = 98) g g := gb_Fr.rf
    obtain ⟨r9, er9, h⟩ := gb_bd_e h
    have Fr9 := gb_Fr.tr Fg (gb_Fr.up (w_X11_leastBy er9) (fun _ _ hw => hw.elim (fun h0 => Or.inr (Or.inl (h0))) (fun h0 => h0.elim (fun h1 => Or.inr (Or.inr (Or.inl (h1)))) (fun h1 => h1.elim (fun h2 => Or.inr (Or.inr (Or.inr (Or.inl (h2))))) (fun h2 => h2.elim (fun h3 => Or.inr (Or.inr (Or.inr (Or.inr (Or.inl (h3)))))) (fun h3 => h3.elim (fun h4 => Or.inr (Or.inr (Or.inr (Or.inr (Or.inr (Or.inl (h4))))))) (fun h4 => Or.inr (Or.inr (Or.inr (Or.inr (Or.inr (Or.inr (Or.inl (h4))))))))))))))
    obtain ⟨-, h⟩ := gb_ck_e h
    rcases gb_ite_e h with h | h
    · obtain ⟨r12, er12, h⟩ := gb_bd_e h
      have Fr12 := gb_Fr.tr Fr9 (gb_Fr.up (w_X11_gladsOf er12) (fun _ _ hw => hw.elim (fun h0 => Or.inr (Or.inl (h0))) (fun h0 => h0.elim (fun h1 => Or.inr (Or.inr (Or.inl (h1)))) (fun h1 => h1.elim (fun h2 => Or.inr (Or.inr (Or.inr (Or.inl (h2))))) (fun h2 => h2.elim (fun h3 => Or.inr (Or.inr (Or.inr (Or.inr (Or.inl (h3)))))) (fun h3 => h3.elim (fun h4 => Or.inr (Or.inr (Or.inr (Or.inr (Or.inr (Or.inl (h4))))))) (fun h4 => Or.inr (Or.inr (Or.inr (Or.inr (Or.inr (Or.inr (Or.inl (h4))))))))))))))
      rcases gb_ite_e h with h | h
      · exact gb_Fr.tr Fr12 (w_X11_glad_294 (hK228) h)
      · exact gb_Fr.tr Fr12 (w_X11_glad_294 (hK228) h)
    · exact gb_Fr.tr Fr9 (ih h)
set_option maxRecDepth 100000 in
set_option maxHeartbeats 4000000 in
theorem w_X11_glad_228 {sh : List gb_Sh}  : ∀ (n : Nat) {g : gb_G} {y2 : Int32} {y4 : Int32} {y5 : Int32} {y6 : Int32} {o : (gb_G × Int32)} (h : f_X11_glad_228 sh n g y2 y4 y5 y6 = some o), gb_Fr (fun c k => (c = 77 ∧ k = 0) ∨ (c = 77 ∧ k = 34) ∨ (c = 77 ∧ k = 38) ∨ (c = 77 ∧ k = 39) ∨ (c = 77 ∧ k = 40) ∨ c = 95 ∨ c = 97 ∨ c = 98) g o.1 := by
  intro n
  induction n with
  | zero => intro g y2 y4 y5 y6 o h; cases h
  | succ n ih =>
    intro g y2 y4 y5 y6 o h
    rw [f_X11_glad_228] at h
    have Fg : gb_Fr (fun c k => (c = 77 ∧ k = 0) ∨ (c = 77 ∧ k = 34) ∨ (c = 77 ∧ k = 38) ∨ (c = 77 ∧ k = 39) ∨ (c = 77 ∧ k = 40) ∨ c = 95 ∨ c = 97 ∨ c = 98) g g := gb_Fr.rf
    rcases gb_ite_e h with h | h
    · cases h
      exact Fg
    · exact gb_Fr.tr Fg (w_X11_glad_237 (fun hh => ih hh) _ h)
set_option maxRecDepth 100000 in
set_option maxHeartbeats 4000000 in
theorem w_X11_glad_145 {sh : List gb_Sh} {K112 : gb_G → Int32 → Int32 → Int32 → Int32 → Int32 → Int32 → Int32 → Option (gb_G × Int32)} {y1 : Int32} {y2 : Int32} {y4 : Int32} {y5 : Int32} {y6 : Int32} {y8 : Int32} {z0 : Int32} {g : gb_G} (hK112 : ∀ {a0 : gb_G} {a1 : Int32} {a2 : Int32} {a3 : Int32} {a4 : Int32} {a5 : Int32} {a6 : Int32} {a7 : Int32} {o : (gb_G × Int32)}, K112 a0 a1 a2 a3 a4 a5 a6 a7 = some o → gb_Fr (fun c k => (c = 77 ∧ k = 0) ∨ (c = 77 ∧ k = 34) ∨ (c = 77 ∧ k = 38) ∨ (c = 77 ∧ k = 39) ∨ (c = 77 ∧ k = 40) ∨ c = 95 ∨ c = 97 ∨ c = 98) a0 o.1) {o : (gb_G × Int32)} (h : f_X11_glad_145 sh K112 g y1 y2 y4 y5 y6 y8 z0 = some o) : gb_Fr (fun c k => (c = 77 ∧ k = 0) ∨ (c = 77 ∧ k = 34) ∨ (c = 77 ∧ k = 38) ∨ (c = 77 ∧ k = 39) ∨ (c = 77 ∧ k = 40) ∨ c = 95 ∨ c = 97 ∨ c = 98) g o.1 := by
  unfold f_X11_glad_145 at h
  have Fg : gb_Fr (fun c k => (c = 77 ∧ k = 0) ∨ (c = 77 ∧ k = 34) ∨ (c = 77 ∧ k = 38) ∨ (c = 77 ∧ k = 39) ∨ (c = 77 ∧ k = 40) ∨ c = 95 ∨ c = 97 ∨ c = 98) g g := gb_Fr.rf
  exact gb_Fr.tr Fg (hK112 h)
set_option maxRecDepth 100000 in
set_option maxHeartbeats 4000000 in
theorem w_X11_glad_112 {sh : List gb_Sh} {K98 : gb_G → Int32 → Int32 → Int32 → Int32 → Int32 → Option (gb_G × Int32)} (hK98 : ∀ {a0 : gb_G} {a1 : Int32} {a2 : Int32} {a3 : Int32} {a4 : Int32} {a5 : Int32} {o : (gb_G × Int32)}, K98 a0 a1 a2 a3 a4 a5 = some o → gb_Fr (fun c k => (c = 77 ∧ k = 0) ∨ (c = 77 ∧ k = 34) ∨ (c = 77 ∧ k = 38) ∨ (c = 77 ∧ k = 39) ∨ (c = 77 ∧ k = 40) ∨ c = 95 ∨ c = 97 ∨ c = 98) a0 o.1) : ∀ (n : Nat) {g : gb_G} {y1 : Int32} {y2 : Int32} {y4 : Int32} {y5 : Int32} {y6 : Int32} {y7 : Int32} {y8 : Int32} {o : (gb_G × Int32)} (h : f_X11_glad_112 sh K98 n g y1 y2 y4 y5 y6 y7 y8 = some o), gb_Fr (fun c k => (c = 77 ∧ k = 0) ∨ (c = 77 ∧ k = 34) ∨ (c = 77 ∧ k = 38) ∨ (c = 77 ∧ k = 39) ∨ (c = 77 ∧ k = 40) ∨ c = 95 ∨ c = 97 ∨ c = 98) g o.1 := by
  intro n
  induction n with
  | zero => intro g y1 y2 y4 y5 y6 y7 y8 o h; cases h
  | succ n ih =>
    intro g y1 y2 y4 y5 y6 y7 y8 o h
    rw [f_X11_glad_112] at h
    have Fg : gb_Fr (fun c k => (c = 77 ∧ k = 0) ∨ (c = 77 ∧ k = 34) ∨ (c = 77 ∧ k = 38) ∨ (c = 77 ∧ k = 39) ∨ (c = 77 ∧ k = 40) ∨ c = 95 ∨ c = 97 ∨ c = 98) g g := gb_Fr.rf
    rcases gb_ite_e h with h | h
    · obtain ⟨-, h⟩ := gb_ck_e h
      obtain ⟨g17, eg17, h⟩ := gb_let_x h
      have Fg17 := gb_Fr.tr Fg (gb_Fr.pi (Or.inr (Or.inr (Or.inr (Or.inr (Or.inr (Or.inr (Or.inr (rfl)))))))) eg17)
      exact gb_Fr.tr Fg17 (hK98 h)
    · obtain ⟨r18, er18, h⟩ := gb_bd_e h
      have Fr18 := gb_Fr.tr Fg (gb_Fr.up (w_X11_leastBy er18) (fun _ _ hw => hw.elim (fun h0 => Or.inr (Or.inl (h0))) (fun h0 => h0.elim (fun h1 => Or.inr (Or.inr (Or.inl (h1)))) (fun h1 => h1.elim (fun h2 => Or.inr (Or.inr (Or.inr (Or.inl (h2))))) (fun h2 => h2.elim (fun h3 => Or.inr (Or.inr (Or.inr (Or.inr (Or.inl (h3)))))) (fun h3 => h3.elim (fun h4 => Or.inr (Or.inr (Or.inr (Or.inr (Or.inr (Or.inl (h4))))))) (fun h4 => Or.inr (Or.inr (Or.inr (Or.inr (Or.inr (Or.inr (Or.inl (h4))))))))))))))
      rcases gb_ite_e h with h | h
      · exact gb_Fr.tr Fr18 (w_X11_glad_145 (fun hh => ih hh) h)
      · exact gb_Fr.tr Fr18 (w_X11_glad_145 (fun hh => ih hh) h)
set_option maxRecDepth 100000 in
set_option maxHeartbeats 4000000 in
theorem w_X11_glad_98 {sh : List gb_Sh} {K82 : gb_G → Int32 → Int32 → Int32 → Option (gb_G × Int32)} (hK82 : ∀ {a0 : gb_G} {a1 : Int32} {a2 : Int32} {a3 : Int32} {o : (gb_G × Int32)}, K82 a0 a1 a2 a3 = some o → gb_Fr (fun c k => (c = 77 ∧ k = 0) ∨ (c = 77 ∧ k = 34) ∨ (c = 77 ∧ k = 38) ∨ (c = 77 ∧ k = 39) ∨ (c = 77 ∧ k = 40) ∨ c = 95 ∨ c = 97 ∨ c = 98) a0 o.1) : ∀ (n : Nat) {g : gb_G} {y1 : Int32} {y2 : Int32} {y4 : Int32} {y5 : Int32} {y6 : Int32} {o : (gb_G × Int32)} (h : f_X11_glad_98 sh K82 n g y1 y2 y4 y5 y6 = some o), gb_Fr (fun c k => (c = 77 ∧ k = 0) ∨ (c = 77 ∧ k = 34) ∨ (c = 77 ∧ k = 38) ∨ (c = 77 ∧ k = 39) ∨ (c = 77 ∧ k = 40) ∨ c = 95 ∨ c = 97 ∨ c = 98) g o.1 := by
  intro n
  induction n with
  | zero => intro g y1 y2 y4 y5 y6 o h; cases h
  | succ n ih =>
    intro g y1 y2 y4 y5 y6 o h
    rw [f_X11_glad_98] at h
    have Fg : gb_Fr (fun c k => (c = 77 ∧ k = 0) ∨ (c = 77 ∧ k = 34) ∨ (c = 77 ∧ k = 38) ∨ (c = 77 ∧ k = 39) ∨ (c = 77 ∧ k = 40) ∨ c = 95 ∨ c = 97 ∨ c = 98) g g := gb_Fr.rf
    rcases gb_ite_e h with h | h
    · exact gb_Fr.tr Fg (hK82 h)
    · exact gb_Fr.tr Fg (w_X11_glad_112 (fun hh => ih hh) _ h)
set_option maxRecDepth 100000 in
set_option maxHeartbeats 4000000 in
theorem w_X11_glad_82 {sh : List gb_Sh}  : ∀ (n : Nat) {g : gb_G} {y1 : Int32} {y2 : Int32} {y4 : Int32} {o : (gb_G × Int32)} (h : f_X11_glad_82 sh n g y1 y2 y4 = some o), gb_Fr (fun c k => (c = 77 ∧ k = 0) ∨ (c = 77 ∧ k = 34) ∨ (c = 77 ∧ k = 38) ∨ (c = 77 ∧ k = 39) ∨ (c = 77 ∧ k = 40) ∨ c = 95 ∨ c = 97 ∨ c = 98) g o.1 := by
  intro n
  induction n with
  | zero => intro g y1 y2 y4 o h; cases h
  | succ n ih =>
    intro g y1 y2 y4 o h
    rw [f_X11_glad_82] at h
    have Fg : gb_Fr (fun c k => (c = 77 ∧ k = 0) ∨ (c = 77 ∧ k = 34) ∨ (c = 77 ∧ k = 38) ∨ (c = 77 ∧ k = 39) ∨ (c = 77 ∧ k = 40) ∨ c = 95 ∨ c = 97 ∨ c = 98) g g := gb_Fr.rf
    rcases gb_ite_e h with h | h
    · obtain ⟨-, h⟩ := gb_ck_e h
      rcases gb_ite_e h with h | h
      · exact gb_Fr.tr Fg (w_X11_glad_196 h)
      · rcases gb_ite_e h with h | h
        · exact gb_Fr.tr Fg (w_X11_glad_196 h)
        · exact gb_Fr.tr Fg (w_X11_glad_228 _ h)
    · obtain ⟨r14, er14, h⟩ := gb_bd_e h
      have Fr14 := gb_Fr.tr Fg (gb_Fr.up (w_X11_mostOf er14) (fun _ _ hw => hw.elim (fun h0 => Or.inr (Or.inl (h0))) (fun h0 => h0.elim (fun h1 => Or.inr (Or.inr (Or.inl (h1)))) (fun h1 => h1.elim (fun h2 => Or.inr (Or.inr (Or.inr (Or.inl (h2))))) (fun h2 => h2.elim (fun h3 => Or.inr (Or.inr (Or.inr (Or.inr (Or.inl (h3)))))) (fun h3 => h3.elim (fun h4 => Or.inr (Or.inr (Or.inr (Or.inr (Or.inr (Or.inl (h4))))))) (fun h4 => Or.inr (Or.inr (Or.inr (Or.inr (Or.inr (Or.inr (Or.inl (h4))))))))))))))
      exact gb_Fr.tr Fr14 (w_X11_glad_98 (fun hh => ih hh) _ h)
set_option maxRecDepth 100000 in
set_option maxHeartbeats 4000000 in
theorem w_X11_glad_70 {sh : List gb_Sh} {K40 : gb_G → Int32 → Int32 → Int32 → Int32 → Option (gb_G × Int32)} {y1 : Int32} {y2 : Int32} {y3 : Int32} {y4 : Int32} {z0 : Int32} {z1 : Int32} {g : gb_G} (hK40 : ∀ {a0 : gb_G} {a1 : Int32} {a2 : Int32} {a3 : Int32} {a4 : Int32} {o : (gb_G × Int32)}, K40 a0 a1 a2 a3 a4 = some o → gb_Fr (fun c k => (c = 77 ∧ k = 0) ∨ (c = 77 ∧ k = 34) ∨ (c = 77 ∧ k = 38) ∨ (c = 77 ∧ k = 39) ∨ (c = 77 ∧ k = 40) ∨ c = 95 ∨ c = 97 ∨ c = 98) a0 o.1) {o : (gb_G × Int32)} (h : f_X11_glad_70 sh K40 g y1 y2 y3 y4 z0 z1 = some o) : gb_Fr (fun c k => (c = 77 ∧ k = 0) ∨ (c = 77 ∧ k = 34) ∨ (c = 77 ∧ k = 38) ∨ (c = 77 ∧ k = 39) ∨ (c = 77 ∧ k = 40) ∨ c = 95 ∨ c = 97 ∨ c = 98) g o.1 := by
  unfold f_X11_glad_70 at h
  have Fg : gb_Fr (fun c k => (c = 77 ∧ k = 0) ∨ (c = 77 ∧ k = 34) ∨ (c = 77 ∧ k = 38) ∨ (c = 77 ∧ k = 39) ∨ (c = 77 ∧ k = 40) ∨ c = 95 ∨ c = 97 ∨ c = 98) g g := gb_Fr.rf
  obtain ⟨-, h⟩ := gb_ck_e h
  obtain ⟨g21, eg21, h⟩ := gb_let_x h
  have Fg21 := gb_Fr.tr Fg (gb_Fr.pi (Or.inr (Or.inr (Or.inr (Or.inr (Or.inr (Or.inr (Or.inr (rfl)))))))) eg21)
  exact gb_Fr.tr Fg21 (hK40 h)
set_option maxRecDepth 100000 in
set_option maxHeartbeats 4000000 in
theorem w_X11_glad_40 {sh : List gb_Sh}  : ∀ (n : Nat) {g : gb_G} {y1 : Int32} {y2 : Int32} {y3 : Int32} {y4 : Int32} {o : (gb_G × Int32)} (h : f_X11_glad_40 sh n g y1 y2 y3 y4 = some o), gb_Fr (fun c k => (c = 77 ∧ k = 0) ∨ (c = 77 ∧ k = 34) ∨ (c = 77 ∧ k = 38) ∨ (c = 77 ∧ k = 39) ∨ (c = 77 ∧ k = 40) ∨ c = 95 ∨ c = 97 ∨ c = 98) g o.1 := by
  intro n
  induction n with
  | zero => intro g y1 y2 y3 y4 o h; cases h
  | succ n ih =>
    intro g y1 y2 y3 y4 o h
    rw [f_X11_glad_40] at h
    have Fg : gb_Fr (fun c k => (c = 77 ∧ k = 0) ∨ (c = 77 ∧ k = 34) ∨ (c = 77 ∧ k = 38) ∨ (c = 77 ∧ k = 39) ∨ (c = 77 ∧ k = 40) ∨ c = 95 ∨ c = 97 ∨ c = 98) g g := gb_Fr.rf
    rcases gb_ite_e h with h | h
    · exact gb_Fr.tr Fg (w_X11_glad_82 _ h)
    · rcases gb_ite_e h with h | h
      · exact gb_Fr.tr Fg (w_X11_glad_70 (fun hh => ih hh) h)
      · exact gb_Fr.tr Fg (w_X11_glad_70 (fun hh => ih hh) h)
set_option maxRecDepth 100000 in
set_option maxHeartbeats 4000000 in
theorem w_X11_glad {sh : List gb_Sh} {x1 : Int32} {x2 : Int32} {g : gb_G}  {o : (gb_G × Int32)} (h : f_X11_glad sh g x1 x2 = some o) : gb_Fr (fun c k => (c = 77 ∧ k = 0) ∨ (c = 77 ∧ k = 34) ∨ (c = 77 ∧ k = 38) ∨ (c = 77 ∧ k = 39) ∨ (c = 77 ∧ k = 40) ∨ c = 95 ∨ c = 97 ∨ c = 98) g o.1 := by
  unfold f_X11_glad at h
  have Fg : gb_Fr (fun c k => (c = 77 ∧ k = 0) ∨ (c = 77 ∧ k = 34) ∨ (c = 77 ∧ k = 38) ∨ (c = 77 ∧ k = 39) ∨ (c = 77 ∧ k = 40) ∨ c = 95 ∨ c = 97 ∨ c = 98) g g := gb_Fr.rf
  obtain ⟨g1, eg1, h⟩ := gb_let_x h
  have Fg1 := gb_Fr.tr Fg (gb_Fr.pi (Or.inl (⟨rfl, rfl⟩)) eg1)
  obtain ⟨r2, er2, h⟩ := gb_bd_e h
  have Fr2 := gb_Fr.tr Fg1 (gb_Fr.up (w_X11_in er2) (fun _ _ hw => hw.elim))
  rcases gb_ite_e h with h | h
  · cases h
    exact Fr2
  · obtain ⟨r4, er4, h⟩ := gb_bd_e h
    have Fr4 := gb_Fr.tr Fr2 (gb_Fr.up (w_X11_in er4) (fun _ _ hw => hw.elim))
    rcases gb_ite_e h with h | h
    · cases h
      exact Fr4
    · exact gb_Fr.tr Fr4 (w_X11_glad_40 _ h)
set_option maxRecDepth 100000 in
set_option maxHeartbeats 4000000 in
theorem w_X11_placeOf {sh : List gb_Sh} {x1 : Int32} {g : gb_G}  {o : (gb_G × Int32)} (h : f_X11_placeOf sh g x1 = some o) : gb_Fr (fun _ _ => False) g o.1 := by
  unfold f_X11_placeOf at h
  have Fg : gb_Fr (fun _ _ => False) g g := gb_Fr.rf
  obtain ⟨r1, er1, h⟩ := gb_bd_e h
  have Fr1 := gb_Fr.tr Fg (gb_Fr.up (w_X11_pricedBy er1) (fun _ _ hw => hw.elim))
  obtain ⟨-, h⟩ := gb_ck_e h
  cases h
  exact Fr1
set_option maxRecDepth 100000 in
set_option maxHeartbeats 4000000 in
theorem w_X11_layRounds_131 {sh : List gb_Sh} {K11 : gb_G → Int32 → Int32 → Int32 → Option (gb_G)} {y1 : Int32} {y2 : Int32} {y3 : Int32} {y4 : Int32} {g : gb_G} (hK11 : ∀ {a0 : gb_G} {a1 : Int32} {a2 : Int32} {a3 : Int32} {o : (gb_G)}, K11 a0 a1 a2 a3 = some o → gb_Fr (fun c k => c = 99) a0 o) {o : (gb_G)} (h : f_X11_layRounds_131 sh K11 g y1 y2 y3 y4 = some o) : gb_Fr (fun c k => c = 99) g o := by
  unfold f_X11_layRounds_131 at h
  have Fg : gb_Fr (fun c k => c = 99) g g := gb_Fr.rf
  obtain ⟨-, h⟩ := gb_ck_e h
  obtain ⟨g2, eg2, h⟩ := gb_let_x h
  have Fg2 := gb_Fr.tr Fg (gb_Fr.pi (rfl) eg2)
  exact gb_Fr.tr Fg2 (hK11 h)
set_option maxRecDepth 100000 in
set_option maxHeartbeats 4000000 in
theorem w_X11_layRounds_123 {sh : List gb_Sh} {K33 : gb_G → Int32 → Int32 → Int32 → Int32 → Int32 → Option (gb_G)} {y1 : Int32} {y2 : Int32} {y3 : Int32} {y5 : Int32} {z0 : Int32} {g : gb_G} (hK33 : ∀ {a0 : gb_G} {a1 : Int32} {a2 : Int32} {a3 : Int32} {a4 : Int32} {a5 : Int32} {o : (gb_G)}, K33 a0 a1 a2 a3 a4 a5 = some o → gb_Fr (fun c k => c = 99) a0 o) {o : (gb_G)} (h : f_X11_layRounds_123 sh K33 g y1 y2 y3 y5 z0 = some o) : gb_Fr (fun c k => c = 99) g o := by
  unfold f_X11_layRounds_123 at h
  have Fg : gb_Fr (fun c k => c = 99) g g := gb_Fr.rf
  exact gb_Fr.tr Fg (hK33 h)
set_option maxRecDepth 100000 in
set_option maxHeartbeats 4000000 in
theorem w_X11_layRounds_107 {sh : List gb_Sh} {K33 : gb_G → Int32 → Int32 → Int32 → Int32 → Int32 → Option (gb_G)} {y1 : Int32} {y2 : Int32} {y3 : Int32} {y4 : Int32} {y5 : Int32} {z0 : Int32} {g : gb_G} (hK33 : ∀ {a0 : gb_G} {a1 : Int32} {a2 : Int32} {a3 : Int32} {a4 : Int32} {a5 : Int32} {o : (gb_G)}, K33 a0 a1 a2 a3 a4 a5 = some o → gb_Fr (fun c k => c = 99) a0 o) {o : (gb_G)} (h : f_X11_layRounds_107 sh K33 g y1 y2 y3 y4 y5 z0 = some o) : gb_Fr (fun c k => c = 99) g o := by
  unfold f_X11_layRounds_107 at h
  have Fg : gb_Fr (fun c k => c = 99) g g := gb_Fr.rf
  rcases gb_ite_e h with h | h
  · exact gb_Fr.tr Fg (w_X11_layRounds_123 (hK33) h)
  · exact gb_Fr.tr Fg (w_X11_layRounds_123 (hK33) h)
set_option maxRecDepth 100000 in
set_option maxHeartbeats 4000000 in
theorem w_X11_layRounds_33 {sh : List gb_Sh} {K11 : gb_G → Int32 → Int32 → Int32 → Option (gb_G)} (hK11 : ∀ {a0 : gb_G} {a1 : Int32} {a2 : Int32} {a3 : Int32} {o : (gb_G)}, K11 a0 a1 a2 a3 = some o → gb_Fr (fun c k => c = 99) a0 o) : ∀ (n : Nat) {g : gb_G} {y1 : Int32} {y2 : Int32} {y3 : Int32} {y4 : Int32} {y5 : Int32} {o : (gb_G)} (h : f_X11_layRounds_33 sh K11 n g y1 y2 y3 y4 y5 = some o), gb_Fr (fun c k => c = 99) g o := by
  intro n
  induction n with
  | zero => intro g y1 y2 y3 y4 y5 o h; cases h
  | succ n ih =>
    intro g y1 y2 y3 y4 y5 o h
    rw [f_X11_layRounds_33] at h
    have Fg : gb_Fr (fun c k => c = 99) g g := gb_Fr.rf
    rcases gb_ite_e h with h | h
    · exact gb_Fr.tr Fg (w_X11_layRounds_131 (hK11) h)
    · rcases gb_ite_e h with h | h
      · obtain ⟨r3, er3, h⟩ := gb_bd_e h
        have Fr3 := gb_Fr.tr Fg (gb_Fr.up (w_X11_is er3) (fun _ _ hw => hw.elim))
        rcases gb_ite_e h with h | h
        · exact gb_Fr.tr Fr3 (w_X11_layRounds_131 (hK11) h)
        · obtain ⟨r5, er5, h⟩ := gb_bd_e h
          have Fr5 := gb_Fr.tr Fr3 (gb_Fr.up (w_X11_is er5) (fun _ _ hw => hw.elim))
          rcases gb_ite_e h with h | h
          · exact gb_Fr.tr Fr5 (w_X11_layRounds_107 (fun hh => ih hh) h)
          · obtain ⟨r7, er7, h⟩ := gb_bd_e h
            have Fr7 := gb_Fr.tr Fr5 (gb_Fr.up (w_X11_placeOf er7) (fun _ _ hw => hw.elim))
            obtain ⟨r9, er9, h⟩ := gb_bd_e h
            have Fr9 := gb_Fr.tr Fr7 (gb_Fr.up (w_X11_placeOf er9) (fun _ _ hw => hw.elim))
            obtain ⟨r11, er11, h⟩ := gb_bd_e h
            have Fr11 := gb_Fr.tr Fr9 (gb_Fr.up (w_X11_stepsOf er11) (fun _ _ hw => hw.elim))
            obtain ⟨-, h⟩ := gb_ck_e h
            exact gb_Fr.tr Fr11 (w_X11_layRounds_107 (fun hh => ih hh) h)
      · exact gb_Fr.tr Fg (w_X11_layRounds_131 (hK11) h)
set_option maxRecDepth 100000 in
set_option maxHeartbeats 4000000 in
theorem w_X11_layRounds_28 {sh : List gb_Sh} {K11 : gb_G → Int32 → Int32 → Int32 → Option (gb_G)} {y1 : Int32} {y2 : Int32} {y3 : Int32} {z0 : Int32} {g : gb_G} (hK11 : ∀ {a0 : gb_G} {a1 : Int32} {a2 : Int32} {a3 : Int32} {o : (gb_G)}, K11 a0 a1 a2 a3 = some o → gb_Fr (fun c k => c = 99) a0 o) {o : (gb_G)} (h : f_X11_layRounds_28 sh K11 g y1 y2 y3 z0 = some o) : gb_Fr (fun c k => c = 99) g o := by
  unfold f_X11_layRounds_28 at h
  have Fg : gb_Fr (fun c k => c = 99) g g := gb_Fr.rf
  exact gb_Fr.tr Fg (w_X11_layRounds_33 (hK11) _ h)
set_option maxRecDepth 100000 in
set_option maxHeartbeats 4000000 in
theorem w_X11_layRounds_11 {sh : List gb_Sh} {K2 : gb_G → Int32 → Int32 → Option (gb_G)} (hK2 : ∀ {a0 : gb_G} {a1 : Int32} {a2 : Int32} {o : (gb_G)}, K2 a0 a1 a2 = some o → gb_Fr (fun c k => c = 99) a0 o) : ∀ (n : Nat) {g : gb_G} {y1 : Int32} {y2 : Int32} {y3 : Int32} {o : (gb_G)} (h : f_X11_layRounds_11 sh K2 n g y1 y2 y3 = some o), gb_Fr (fun c k => c = 99) g o := by
  intro n
  induction n with
  | zero => intro g y1 y2 y3 o h; cases h
  | succ n ih =>
    intro g y1 y2 y3 o h
    rw [f_X11_layRounds_11] at h
    have Fg : gb_Fr (fun c k => c = 99) g g := gb_Fr.rf
    rcases gb_ite_e h with h | h
    · exact gb_Fr.tr Fg (hK2 h)
    · rcases gb_ite_e h with h | h
      · exact gb_Fr.tr Fg (w_X11_layRounds_28 (fun hh => ih hh) h)
      · exact gb_Fr.tr Fg (w_X11_layRounds_28 (fun hh => ih hh) h)
set_option maxRecDepth 100000 in
set_option maxHeartbeats 4000000 in
theorem w_X11_layRounds_2 {sh : List gb_Sh}  : ∀ (n : Nat) {g : gb_G} {y1 : Int32} {y2 : Int32} {o : (gb_G)} (h : f_X11_layRounds_2 sh n g y1 y2 = some o), gb_Fr (fun c k => c = 99) g o := by
  intro n
  induction n with
  | zero => intro g y1 y2 o h; cases h
  | succ n ih =>
    intro g y1 y2 o h
    rw [f_X11_layRounds_2] at h
    have Fg : gb_Fr (fun c k => c = 99) g g := gb_Fr.rf
    rcases gb_ite_e h with h | h
    · cases h
      exact Fg
    · exact gb_Fr.tr Fg (w_X11_layRounds_11 (fun hh => ih hh) _ h)
set_option maxRecDepth 100000 in
set_option maxHeartbeats 4000000 in
theorem w_X11_layRounds {sh : List gb_Sh} {x1 : Int32} {g : gb_G}  {o : (gb_G)} (h : f_X11_layRounds sh g x1 = some o) : gb_Fr (fun c k => c = 99) g o := by
  unfold f_X11_layRounds at h
  have Fg : gb_Fr (fun c k => c = 99) g g := gb_Fr.rf
  exact gb_Fr.tr Fg (w_X11_layRounds_2 _ h)
set_option maxRecDepth 100000 in
set_option maxHeartbeats 4000000 in
theorem w_X11_fromPlace {sh : List gb_Sh} {x1 : Int32} {x2 : Int32} {x3 : Int32} {g : gb_G}  {o : (gb_G × Int32)} (h : f_X11_fromPlace sh g x1 x2 x3 = some o) : gb_Fr (fun _ _ => False) g o.1 := by
  unfold f_X11_fromPlace at h
  have Fg : gb_Fr (fun _ _ => False) g g := gb_Fr.rf
  obtain ⟨r1, er1, h⟩ := gb_bd_e h
  have Fr1 := gb_Fr.tr Fg (gb_Fr.up (w_X11_is er1) (fun _ _ hw => hw.elim))
  rcases gb_ite_e h with h | h
  · cases h
    exact Fr1
  · obtain ⟨r3, er3, h⟩ := gb_bd_e h
    have Fr3 := gb_Fr.tr Fr1 (gb_Fr.up (w_X11_placeOf er3) (fun _ _ hw => hw.elim))
    obtain ⟨r5, er5, h⟩ := gb_bd_e h
    have Fr5 := gb_Fr.tr Fr3 (gb_Fr.up (w_X11_stepsOf er5) (fun _ _ hw => hw.elim))
    obtain ⟨-, h⟩ := gb_ck_e h
    cases h
    exact Fr5
set_option maxRecDepth 100000 in
set_option maxHeartbeats 4000000 in
theorem w_X11_round_184 {sh : List gb_Sh} {y2 : Int32} {y5 : Int32} {y6 : Int32} {y7 : Int32} {g : gb_G}  {o : (gb_G × Int32)} (h : f_X11_round_184 sh g y2 y5 y6 y7 = some o) : gb_Fr (fun c k => (c = 77 ∧ k = 0) ∨ (c = 77 ∧ k = 34) ∨ (c = 77 ∧ k = 38) ∨ (c = 77 ∧ k = 39) ∨ (c = 77 ∧ k = 40) ∨ c = 95 ∨ c = 97 ∨ c = 99) g o.1 := by
  unfold f_X11_round_184 at h
  have Fg : gb_Fr (fun c k => (c = 77 ∧ k = 0) ∨ (c = 77 ∧ k = 34) ∨ (c = 77 ∧ k = 38) ∨ (c = 77 ∧ k = 39) ∨ (c = 77 ∧ k = 40) ∨ c = 95 ∨ c = 97 ∨ c = 99) g g := gb_Fr.rf
  rcases gb_ite_e h with h | h
  · cases h
    exact Fg
  · rcases gb_ite_e h with h | h
    · cases h
      exact Fg
    · cases h
      exact Fg
set_option maxRecDepth 100000 in
set_option maxHeartbeats 4000000 in
theorem w_X11_round_139 {sh : List gb_Sh} {K104 : gb_G → Int32 → Int32 → Int32 → Int32 → Int32 → Int32 → Int32 → Option (gb_G × Int32)} {y2 : Int32} {y3 : Int32} {y4 : Int32} {y6 : Int32} {y7 : Int32} {y8 : Int32} {z0 : Int32} {g : gb_G} (hK104 : ∀ {a0 : gb_G} {a1 : Int32} {a2 : Int32} {a3 : Int32} {a4 : Int32} {a5 : Int32} {a6 : Int32} {a7 : Int32} {o : (gb_G × Int32)}, K104 a0 a1 a2 a3 a4 a5 a6 a7 = some o → gb_Fr (fun c k => (c = 77 ∧ k = 0) ∨ (c = 77 ∧ k = 34) ∨ (c = 77 ∧ k = 38) ∨ (c = 77 ∧ k = 39) ∨ (c = 77 ∧ k = 40) ∨ c = 95 ∨ c = 97 ∨ c = 99) a0 o.1) {o : (gb_G × Int32)} (h : f_X11_round_139 sh K104 g y2 y3 y4 y6 y7 y8 z0 = some o) : gb_Fr (fun c k => (c = 77 ∧ k = 0) ∨ (c = 77 ∧ k = 34) ∨ (c = 77 ∧ k = 38) ∨ (c = 77 ∧ k = 39) ∨ (c = 77 ∧ k = 40) ∨ c = 95 ∨ c = 97 ∨ c = 99) g o.1 := by
  unfold f_X11_round_139 at h
  have Fg : gb_Fr (fun c k => (c = 77 ∧ k = 0) ∨ (c = 77 ∧ k = 34) ∨ (c = 77 ∧ k = 38) ∨ (c = 77 ∧ k = 39) ∨ (c = 77 ∧ k = 40) ∨ c = 95 ∨ c = 97 ∨ c = 99) g g := gb_Fr.rf
  exact gb_Fr.tr Fg (hK104 h)
set_option maxRecDepth 100000 in
set_option maxHeartbeats 4000000 in
theorem w_X11_round_104 {sh : List gb_Sh} {K83 : gb_G → Int32 → Int32 → Int32 → Int32 → Int32 → Int32 → Option (gb_G × Int32)} (hK83 : ∀ {a0 : gb_G} {a1 : Int32} {a2 : Int32} {a3 : Int32} {a4 : Int32} {a5 : Int32} {a6 : Int32} {o : (gb_G × Int32)}, K83 a0 a1 a2 a3 a4 a5 a6 = some o → gb_Fr (fun c k => (c = 77 ∧ k = 0) ∨ (c = 77 ∧ k = 34) ∨ (c = 77 ∧ k = 38) ∨ (c = 77 ∧ k = 39) ∨ (c = 77 ∧ k = 40) ∨ c = 95 ∨ c = 97 ∨ c = 99) a0 o.1) : ∀ (n : Nat) {g : gb_G} {y2 : Int32} {y3 : Int32} {y4 : Int32} {y5 : Int32} {y6 : Int32} {y7 : Int32} {y8 : Int32} {o : (gb_G × Int32)} (h : f_X11_round_104 sh K83 n g y2 y3 y4 y5 y6 y7 y8 = some o), gb_Fr (fun c k => (c = 77 ∧ k = 0) ∨ (c = 77 ∧ k = 34) ∨ (c = 77 ∧ k = 38) ∨ (c = 77 ∧ k = 39) ∨ (c = 77 ∧ k = 40) ∨ c = 95 ∨ c = 97 ∨ c = 99) g o.1 := by
  intro n
  induction n with
  | zero => intro g y2 y3 y4 y5 y6 y7 y8 o h; cases h
  | succ n ih =>
    intro g y2 y3 y4 y5 y6 y7 y8 o h
    rw [f_X11_round_104] at h
    have Fg : gb_Fr (fun c k => (c = 77 ∧ k = 0) ∨ (c = 77 ∧ k = 34) ∨ (c = 77 ∧ k = 38) ∨ (c = 77 ∧ k = 39) ∨ (c = 77 ∧ k = 40) ∨ c = 95 ∨ c = 97 ∨ c = 99) g g := gb_Fr.rf
    rcases gb_ite_e h with h | h
    · obtain ⟨r6, er6, h⟩ := gb_bd_e h
      have Fr6 := gb_Fr.tr Fg (gb_Fr.up (w_X11_placeOf er6) (fun _ _ hw => hw.elim))
      obtain ⟨r8, er8, h⟩ := gb_bd_e h
      have Fr8 := gb_Fr.tr Fr6 (gb_Fr.up (w_X11_stepsOf er8) (fun _ _ hw => hw.elim))
      obtain ⟨r10, er10, h⟩ := gb_bd_e h
      have Fr10 := gb_Fr.tr Fr8 (gb_Fr.up (w_X11_placeOf er10) (fun _ _ hw => hw.elim))
      exact gb_Fr.tr Fr10 (hK83 h)
    · obtain ⟨r12, er12, h⟩ := gb_bd_e h
      have Fr12 := gb_Fr.tr Fg (gb_Fr.up (w_X11_fromPlace er12) (fun _ _ hw => hw.elim))
      obtain ⟨r14, er14, h⟩ := gb_bd_e h
      have Fr14 := gb_Fr.tr Fr12 (gb_Fr.up (w_X11_fromPlace er14) (fun _ _ hw => hw.elim))
      rcases gb_ite_e h with h | h
      · exact gb_Fr.tr Fr14 (w_X11_round_139 (fun hh => ih hh) h)
      · exact gb_Fr.tr Fr14 (w_X11_round_139 (fun hh => ih hh) h)
set_option maxRecDepth 100000 in
set_option maxHeartbeats 4000000 in
theorem w_X11_round_98 {sh : List gb_Sh} {K83 : gb_G → Int32 → Int32 → Int32 → Int32 → Int32 → Int32 → Option (gb_G × Int32)} {y2 : Int32} {y3 : Int32} {y4 : Int32} {y6 : Int32} {y7 : Int32} {g : gb_G} (hK83 : ∀ {a0 : gb_G} {a1 : Int32} {a2 : Int32} {a3 : Int32} {a4 : Int32} {a5 : Int32} {a6 : Int32} {o : (gb_G × Int32)}, K83 a0 a1 a2 a3 a4 a5 a6 = some o → gb_Fr (fun c k => (c = 77 ∧ k = 0) ∨ (c = 77 ∧ k = 34) ∨ (c = 77 ∧ k = 38) ∨ (c = 77 ∧ k = 39) ∨ (c = 77 ∧ k = 40) ∨ c = 95 ∨ c = 97 ∨ c = 99) a0 o.1) {o : (gb_G × Int32)} (h : f_X11_round_98 sh K83 g y2 y3 y4 y6 y7 = some o) : gb_Fr (fun c k => (c = 77 ∧ k = 0) ∨ (c = 77 ∧ k = 34) ∨ (c = 77 ∧ k = 38) ∨ (c = 77 ∧ k = 39) ∨ (c = 77 ∧ k = 40) ∨ c = 95 ∨ c = 97 ∨ c = 99) g o.1 := by
  unfold f_X11_round_98 at h
  have Fg : gb_Fr (fun c k => (c = 77 ∧ k = 0) ∨ (c = 77 ∧ k = 34) ∨ (c = 77 ∧ k = 38) ∨ (c = 77 ∧ k = 39) ∨ (c = 77 ∧ k = 40) ∨ c = 95 ∨ c = 97 ∨ c = 99) g g := gb_Fr.rf
  exact gb_Fr.tr Fg (w_X11_round_104 (hK83) _ h)
set_option maxRecDepth 100000 in
set_option maxHeartbeats 4000000 in
theorem w_X11_round_83 {sh : List gb_Sh}  : ∀ (n : Nat) {g : gb_G} {y2 : Int32} {y3 : Int32} {y4 : Int32} {y5 : Int32} {y6 : Int32} {y7 : Int32} {o : (gb_G × Int32)} (h : f_X11_round_83 sh n g y2 y3 y4 y5 y6 y7 = some o), gb_Fr (fun c k => (c = 77 ∧ k = 0) ∨ (c = 77 ∧ k = 34) ∨ (c = 77 ∧ k = 38) ∨ (c = 77 ∧ k = 39) ∨ (c = 77 ∧ k = 40) ∨ c = 95 ∨ c = 97 ∨ c = 99) g o.1 := by
  intro n
  induction n with
  | zero => intro g y2 y3 y4 y5 y6 y7 o h; cases h
  | succ n ih =>
    intro g y2 y3 y4 y5 y6 y7 o h
    rw [f_X11_round_83] at h
    have Fg : gb_Fr (fun c k => (c = 77 ∧ k = 0) ∨ (c = 77 ∧ k = 34) ∨ (c = 77 ∧ k = 38) ∨ (c = 77 ∧ k = 39) ∨ (c = 77 ∧ k = 40) ∨ c = 95 ∨ c = 97 ∨ c = 99) g g := gb_Fr.rf
    rcases gb_ite_e h with h | h
    · exact gb_Fr.tr Fg (w_X11_round_184 h)
    · rcases gb_ite_e h with h | h
      · exact gb_Fr.tr Fg (w_X11_round_98 (fun hh => ih hh) h)
      · rcases gb_ite_e h with h | h
        · exact gb_Fr.tr Fg (w_X11_round_184 h)
        · exact gb_Fr.tr Fg (w_X11_round_98 (fun hh => ih hh) h)
set_option maxRecDepth 100000 in
set_option maxHeartbeats 4000000 in
theorem w_X11_round_58 {sh : List gb_Sh} {K29 : gb_G → Int32 → Int32 → Int32 → Int32 → Option (gb_G × Int32)} {y1 : Int32} {y2 : Int32} {y4 : Int32} {z0 : Int32} {z1 : Int32} {g : gb_G} (hK29 : ∀ {a0 : gb_G} {a1 : Int32} {a2 : Int32} {a3 : Int32} {a4 : Int32} {o : (gb_G × Int32)}, K29 a0 a1 a2 a3 a4 = some o → gb_Fr (fun c k => (c = 77 ∧ k = 0) ∨ (c = 77 ∧ k = 34) ∨ (c = 77 ∧ k = 38) ∨ (c = 77 ∧ k = 39) ∨ (c = 77 ∧ k = 40) ∨ c = 95 ∨ c = 97 ∨ c = 99) a0 o.1) {o : (gb_G × Int32)} (h : f_X11_round_58 sh K29 g y1 y2 y4 z0 z1 = some o) : gb_Fr (fun c k => (c = 77 ∧ k = 0) ∨ (c = 77 ∧ k = 34) ∨ (c = 77 ∧ k = 38) ∨ (c = 77 ∧ k = 39) ∨ (c = 77 ∧ k = 40) ∨ c = 95 ∨ c = 97 ∨ c = 99) g o.1 := by
  unfold f_X11_round_58 at h
  have Fg : gb_Fr (fun c k => (c = 77 ∧ k = 0) ∨ (c = 77 ∧ k = 34) ∨ (c = 77 ∧ k = 38) ∨ (c = 77 ∧ k = 39) ∨ (c = 77 ∧ k = 40) ∨ c = 95 ∨ c = 97 ∨ c = 99) g g := gb_Fr.rf
  exact gb_Fr.tr Fg (hK29 h)
set_option maxRecDepth 100000 in
set_option maxHeartbeats 4000000 in
theorem w_X11_round_29 {sh : List gb_Sh}  : ∀ (n : Nat) {g : gb_G} {y1 : Int32} {y2 : Int32} {y3 : Int32} {y4 : Int32} {o : (gb_G × Int32)} (h : f_X11_round_29 sh n g y1 y2 y3 y4 = some o), gb_Fr (fun c k => (c = 77 ∧ k = 0) ∨ (c = 77 ∧ k = 34) ∨ (c = 77 ∧ k = 38) ∨ (c = 77 ∧ k = 39) ∨ (c = 77 ∧ k = 40) ∨ c = 95 ∨ c = 97 ∨ c = 99) g o.1 := by
  intro n
  induction n with
  | zero => intro g y1 y2 y3 y4 o h; cases h
  | succ n ih =>
    intro g y1 y2 y3 y4 o h
    rw [f_X11_round_29] at h
    have Fg : gb_Fr (fun c k => (c = 77 ∧ k = 0) ∨ (c = 77 ∧ k = 34) ∨ (c = 77 ∧ k = 38) ∨ (c = 77 ∧ k = 39) ∨ (c = 77 ∧ k = 40) ∨ c = 95 ∨ c = 97 ∨ c = 99) g g := gb_Fr.rf
    rcases gb_ite_e h with h | h
    · obtain ⟨r4, er4, h⟩ := gb_bd_e h
      have Fr4 := gb_Fr.tr Fg (gb_Fr.up (w_X11_layRounds er4) (fun _ _ hw => Or.inr (Or.inr (Or.inr (Or.inr (Or.inr (Or.inr (Or.inr (hw)))))))))
      exact gb_Fr.tr Fr4 (w_X11_round_83 _ h)
    · obtain ⟨r16, er16, h⟩ := gb_bd_e h
      have Fr16 := gb_Fr.tr Fg (gb_Fr.up (w_X11_countsOf er16) (fun _ _ hw => hw.elim (fun h0 => Or.inr (Or.inl (h0))) (fun h0 => h0.elim (fun h1 => Or.inr (Or.inr (Or.inl (h1)))) (fun h1 => h1.elim (fun h2 => Or.inr (Or.inr (Or.inr (Or.inl (h2))))) (fun h2 => h2.elim (fun h3 => Or.inr (Or.inr (Or.inr (Or.inr (Or.inl (h3)))))) (fun h3 => h3.elim (fun h4 => Or.inr (Or.inr (Or.inr (Or.inr (Or.inr (Or.inl (h4))))))) (fun h4 => Or.inr (Or.inr (Or.inr (Or.inr (Or.inr (Or.inr (Or.inl (h4))))))))))))))
      rcases gb_ite_e h with h | h
      · exact gb_Fr.tr Fr16 (w_X11_round_58 (fun hh => ih hh) h)
      · exact gb_Fr.tr Fr16 (w_X11_round_58 (fun hh => ih hh) h)
set_option maxRecDepth 100000 in
set_option maxHeartbeats 4000000 in
theorem w_X11_round {sh : List gb_Sh} {x1 : Int32} {x2 : Int32} {g : gb_G}  {o : (gb_G × Int32)} (h : f_X11_round sh g x1 x2 = some o) : gb_Fr (fun c k => (c = 77 ∧ k = 0) ∨ (c = 77 ∧ k = 34) ∨ (c = 77 ∧ k = 38) ∨ (c = 77 ∧ k = 39) ∨ (c = 77 ∧ k = 40) ∨ c = 95 ∨ c = 97 ∨ c = 99) g o.1 := by
  unfold f_X11_round at h
  have Fg : gb_Fr (fun c k => (c = 77 ∧ k = 0) ∨ (c = 77 ∧ k = 34) ∨ (c = 77 ∧ k = 38) ∨ (c = 77 ∧ k = 39) ∨ (c = 77 ∧ k = 40) ∨ c = 95 ∨ c = 97 ∨ c = 99) g g := gb_Fr.rf
  obtain ⟨g1, eg1, h⟩ := gb_let_x h
  have Fg1 := gb_Fr.tr Fg (gb_Fr.pi (Or.inl (⟨rfl, rfl⟩)) eg1)
  obtain ⟨r2, er2, h⟩ := gb_bd_e h
  have Fr2 := gb_Fr.tr Fg1 (gb_Fr.up (w_X11_in er2) (fun _ _ hw => hw.elim))
  rcases gb_ite_e h with h | h
  · cases h
    exact Fr2
  · rcases gb_ite_e h with h | h
    · exact gb_Fr.tr Fr2 (w_X11_round_29 _ h)
    · cases h
      exact Fr2
set_option maxRecDepth 100000 in
set_option maxHeartbeats 4000000 in
theorem w_X11_isBought_83 {sh : List gb_Sh} {K12 : gb_G → Int32 → Int32 → Int32 → Int32 → Int32 → Int32 → Int32 → Option (gb_G × Int32)} {y1 : Int32} {y2 : Int32} {y3 : Int32} {y4 : Int32} {y5 : Int32} {y6 : Int32} {y7 : Int32} {g : gb_G} (hK12 : ∀ {a0 : gb_G} {a1 : Int32} {a2 : Int32} {a3 : Int32} {a4 : Int32} {a5 : Int32} {a6 : Int32} {a7 : Int32} {o : (gb_G × Int32)}, K12 a0 a1 a2 a3 a4 a5 a6 a7 = some o → gb_Fr (fun c k => (c = 77 ∧ k = 34) ∨ (c = 77 ∧ k = 38) ∨ (c = 77 ∧ k = 39) ∨ (c = 77 ∧ k = 40) ∨ c = 95 ∨ c = 97) a0 o.1) {o : (gb_G × Int32)} (h : f_X11_isBought_83 sh K12 g y1 y2 y3 y4 y5 y6 y7 = some o) : gb_Fr (fun c k => (c = 77 ∧ k = 34) ∨ (c = 77 ∧ k = 38) ∨ (c = 77 ∧ k = 39) ∨ (c = 77 ∧ k = 40) ∨ c = 95 ∨ c = 97) g o.1 := by
  unfold f_X11_isBought_83 at h
  have Fg : gb_Fr (fun c k => (c = 77 ∧ k = 34) ∨ (c = 77 ∧ k = 38) ∨ (c = 77 ∧ k = 39) ∨ (c = 77 ∧ k = 40) ∨ c = 95 ∨ c = 97) g g := gb_Fr.rf
  exact gb_Fr.tr Fg (hK12 h)
set_option maxRecDepth 100000 in
set_option maxHeartbeats 4000000 in
theorem w_X11_isBought_81 {sh : List gb_Sh} {K83 : gb_G → Int32 → Int32 → Int32 → Int32 → Int32 → Int32 → Int32 → Option (gb_G × Int32)} {y1 : Int32} {y2 : Int32} {y3 : Int32} {y4 : Int32} {y5 : Int32} {y7 : Int32} {z0 : Int32} {g : gb_G} (hK83 : ∀ {a0 : gb_G} {a1 : Int32} {a2 : Int32} {a3 : Int32} {a4 : Int32} {a5 : Int32} {a6 : Int32} {a7 : Int32} {o : (gb_G × Int32)}, K83 a0 a1 a2 a3 a4 a5 a6 a7 = some o → gb_Fr (fun c k => (c = 77 ∧ k = 34) ∨ (c = 77 ∧ k = 38) ∨ (c = 77 ∧ k = 39) ∨ (c = 77 ∧ k = 40) ∨ c = 95 ∨ c = 97) a0 o.1) {o : (gb_G × Int32)} (h : f_X11_isBought_81 sh K83 g y1 y2 y3 y4 y5 y7 z0 = some o) : gb_Fr (fun c k => (c = 77 ∧ k = 34) ∨ (c = 77 ∧ k = 38) ∨ (c = 77 ∧ k = 39) ∨ (c = 77 ∧ k = 40) ∨ c = 95 ∨ c = 97) g o.1 := by
  unfold f_X11_isBought_81 at h
  have Fg : gb_Fr (fun c k => (c = 77 ∧ k = 34) ∨ (c = 77 ∧ k = 38) ∨ (c = 77 ∧ k = 39) ∨ (c = 77 ∧ k = 40) ∨ c = 95 ∨ c = 97) g g := gb_Fr.rf
  exact gb_Fr.tr Fg (hK83 h)
set_option maxRecDepth 100000 in
set_option maxHeartbeats 4000000 in
theorem w_X11_isBought_12 {sh : List gb_Sh}  : ∀ (n : Nat) {g : gb_G} {y1 : Int32} {y2 : Int32} {y3 : Int32} {y4 : Int32} {y5 : Int32} {y6 : Int32} {y7 : Int32} {o : (gb_G × Int32)} (h : f_X11_isBought_12 sh n g y1 y2 y3 y4 y5 y6 y7 = some o), gb_Fr (fun c k => (c = 77 ∧ k = 34) ∨ (c = 77 ∧ k = 38) ∨ (c = 77 ∧ k = 39) ∨ (c = 77 ∧ k = 40) ∨ c = 95 ∨ c = 97) g o.1 := by
  intro n
  induction n with
  | zero => intro g y1 y2 y3 y4 y5 y6 y7 o h; cases h
  | succ n ih =>
    intro g y1 y2 y3 y4 y5 y6 y7 o h
    rw [f_X11_isBought_12] at h
    have Fg : gb_Fr (fun c k => (c = 77 ∧ k = 34) ∨ (c = 77 ∧ k = 38) ∨ (c = 77 ∧ k = 39) ∨ (c = 77 ∧ k = 40) ∨ c = 95 ∨ c = 97) g g := gb_Fr.rf
    rcases gb_ite_e h with h | h
    · rcases gb_ite_e h with h | h
      · cases h
        exact Fg
      · rcases gb_ite_e h with h | h
        · rcases gb_ite_e h with h | h
          · cases h
            exact Fg
          · cases h
            exact Fg
        · cases h
          exact Fg
    · obtain ⟨r1, er1, h⟩ := gb_bd_e h
      have Fr1 := gb_Fr.tr Fg (gb_Fr.up (w_X11_is er1) (fun _ _ hw => hw.elim))
      rcases gb_ite_e h with h | h
      · exact gb_Fr.tr Fr1 (w_X11_isBought_83 (fun hh => ih hh) h)
      · obtain ⟨-, h⟩ := gb_ck_e h
        obtain ⟨r4, er4, h⟩ := gb_bd_e h
        have Fr4 := gb_Fr.tr Fr1 (gb_Fr.up (w_X11_gladsOf er4) (fun _ _ hw => hw.elim (fun h0 => Or.inl (h0)) (fun h0 => h0.elim (fun h1 => Or.inr (Or.inl (h1))) (fun h1 => h1.elim (fun h2 => Or.inr (Or.inr (Or.inl (h2)))) (fun h2 => h2.elim (fun h3 => Or.inr (Or.inr (Or.inr (Or.inl (h3))))) (fun h3 => h3.elim (fun h4 => Or.inr (Or.inr (Or.inr (Or.inr (Or.inl (h4)))))) (fun h4 => Or.inr (Or.inr (Or.inr (Or.inr (Or.inr (h4))))))))))))
        rcases gb_ite_e h with h | h
        · exact gb_Fr.tr Fr4 (w_X11_isBought_81 (fun hh => w_X11_isBought_83 (fun hh => ih hh) hh) h)
        · obtain ⟨-, h⟩ := gb_ck_e h
          rcases gb_ite_e h with h | h
          · exact gb_Fr.tr Fr4 (w_X11_isBought_81 (fun hh => w_X11_isBought_83 (fun hh => ih hh) hh) h)
          · exact gb_Fr.tr Fr4 (w_X11_isBought_81 (fun hh => w_X11_isBought_83 (fun hh => ih hh) hh) h)
set_option maxRecDepth 100000 in
set_option maxHeartbeats 4000000 in
theorem w_X11_isBought {sh : List gb_Sh} {x1 : Int32} {x2 : Int32} {x3 : Int32} {g : gb_G}  {o : (gb_G × Int32)} (h : f_X11_isBought sh g x1 x2 x3 = some o) : gb_Fr (fun c k => (c = 77 ∧ k = 34) ∨ (c = 77 ∧ k = 38) ∨ (c = 77 ∧ k = 39) ∨ (c = 77 ∧ k = 40) ∨ c = 95 ∨ c = 97) g o.1 := by
  unfold f_X11_isBought at h
  have Fg : gb_Fr (fun c k => (c = 77 ∧ k = 34) ∨ (c = 77 ∧ k = 38) ∨ (c = 77 ∧ k = 39) ∨ (c = 77 ∧ k = 40) ∨ c = 95 ∨ c = 97) g g := gb_Fr.rf
  exact gb_Fr.tr Fg (w_X11_isBought_12 _ h)
set_option maxRecDepth 100000 in
set_option maxHeartbeats 4000000 in
theorem w_X11_areSpent {sh : List gb_Sh} {x1 : Int32} {x2 : Int32} {g : gb_G}  {o : (gb_G × Int32)} (h : f_X11_areSpent sh g x1 x2 = some o) : gb_Fr (fun _ _ => False) g o.1 := by
  unfold f_X11_areSpent at h
  have Fg : gb_Fr (fun _ _ => False) g g := gb_Fr.rf
  obtain ⟨r1, er1, h⟩ := gb_bd_e h
  have Fr1 := gb_Fr.tr Fg (gb_Fr.up (w_X11_in er1) (fun _ _ hw => hw.elim))
  rcases gb_ite_e h with h | h
  · cases h
    exact Fr1
  · obtain ⟨r3, er3, h⟩ := gb_bd_e h
    have Fr3 := gb_Fr.tr Fr1 (gb_Fr.up (w_X11_in er3) (fun _ _ hw => hw.elim))
    rcases gb_ite_e h with h | h
    · cases h
      exact Fr3
    · cases h
      exact Fr3
set_option maxRecDepth 100000 in
set_option maxHeartbeats 4000000 in
theorem w_X11_spent_66 {sh : List gb_Sh} {K24 : gb_G → Int32 → Int32 → Int32 → Int32 → Int32 → Int32 → Option (gb_G × Int32)} {y1 : Int32} {y2 : Int32} {y3 : Int32} {y4 : Int32} {y5 : Int32} {y6 : Int32} {g : gb_G} (hK24 : ∀ {a0 : gb_G} {a1 : Int32} {a2 : Int32} {a3 : Int32} {a4 : Int32} {a5 : Int32} {a6 : Int32} {o : (gb_G × Int32)}, K24 a0 a1 a2 a3 a4 a5 a6 = some o → gb_Fr (fun c k => (c = 77 ∧ k = 0) ∨ (c = 77 ∧ k = 34) ∨ (c = 77 ∧ k = 38) ∨ (c = 77 ∧ k = 39) ∨ (c = 77 ∧ k = 40) ∨ c = 95 ∨ c = 97) a0 o.1) {o : (gb_G × Int32)} (h : f_X11_spent_66 sh K24 g y1 y2 y3 y4 y5 y6 = some o) : gb_Fr (fun c k => (c = 77 ∧ k = 0) ∨ (c = 77 ∧ k = 34) ∨ (c = 77 ∧ k = 38) ∨ (c = 77 ∧ k = 39) ∨ (c = 77 ∧ k = 40) ∨ c = 95 ∨ c = 97) g o.1 := by
  unfold f_X11_spent_66 at h
  have Fg : gb_Fr (fun c k => (c = 77 ∧ k = 0) ∨ (c = 77 ∧ k = 34) ∨ (c = 77 ∧ k = 38) ∨ (c = 77 ∧ k = 39) ∨ (c = 77 ∧ k = 40) ∨ c = 95 ∨ c = 97) g g := gb_Fr.rf
  exact gb_Fr.tr Fg (hK24 h)
set_option maxRecDepth 100000 in
set_option maxHeartbeats 4000000 in
theorem w_X11_spent_61 {sh : List gb_Sh} {K66 : gb_G → Int32 → Int32 → Int32 → Int32 → Int32 → Int32 → Option (gb_G × Int32)} {y1 : Int32} {y2 : Int32} {y3 : Int32} {y4 : Int32} {y6 : Int32} {z0 : Int32} {g : gb_G} (hK66 : ∀ {a0 : gb_G} {a1 : Int32} {a2 : Int32} {a3 : Int32} {a4 : Int32} {a5 : Int32} {a6 : Int32} {o : (gb_G × Int32)}, K66 a0 a1 a2 a3 a4 a5 a6 = some o → gb_Fr (fun c k => (c = 77 ∧ k = 0) ∨ (c = 77 ∧ k = 34) ∨ (c = 77 ∧ k = 38) ∨ (c = 77 ∧ k = 39) ∨ (c = 77 ∧ k = 40) ∨ c = 95 ∨ c = 97) a0 o.1) {o : (gb_G × Int32)} (h : f_X11_spent_61 sh K66 g y1 y2 y3 y4 y6 z0 = some o) : gb_Fr (fun c k => (c = 77 ∧ k = 0) ∨ (c = 77 ∧ k = 34) ∨ (c = 77 ∧ k = 38) ∨ (c = 77 ∧ k = 39) ∨ (c = 77 ∧ k = 40) ∨ c = 95 ∨ c = 97) g o.1 := by
  unfold f_X11_spent_61 at h
  have Fg : gb_Fr (fun c k => (c = 77 ∧ k = 0) ∨ (c = 77 ∧ k = 34) ∨ (c = 77 ∧ k = 38) ∨ (c = 77 ∧ k = 39) ∨ (c = 77 ∧ k = 40) ∨ c = 95 ∨ c = 97) g g := gb_Fr.rf
  exact gb_Fr.tr Fg (hK66 h)
set_option maxRecDepth 100000 in
set_option maxHeartbeats 4000000 in
theorem w_X11_spent_24 {sh : List gb_Sh}  : ∀ (n : Nat) {g : gb_G} {y1 : Int32} {y2 : Int32} {y3 : Int32} {y4 : Int32} {y5 : Int32} {y6 : Int32} {o : (gb_G × Int32)} (h : f_X11_spent_24 sh n g y1 y2 y3 y4 y5 y6 = some o), gb_Fr (fun c k => (c = 77 ∧ k = 0) ∨ (c = 77 ∧ k = 34) ∨ (c = 77 ∧ k = 38) ∨ (c = 77 ∧ k = 39) ∨ (c = 77 ∧ k = 40) ∨ c = 95 ∨ c = 97) g o.1 := by
  intro n
  induction n with
  | zero => intro g y1 y2 y3 y4 y5 y6 o h; cases h
  | succ n ih =>
    intro g y1 y2 y3 y4 y5 y6 o h
    rw [f_X11_spent_24] at h
    have Fg : gb_Fr (fun c k => (c = 77 ∧ k = 0) ∨ (c = 77 ∧ k = 34) ∨ (c = 77 ∧ k = 38) ∨ (c = 77 ∧ k = 39) ∨ (c = 77 ∧ k = 40) ∨ c = 95 ∨ c = 97) g g := gb_Fr.rf
    rcases gb_ite_e h with h | h
    · rcases gb_ite_e h with h | h
      · cases h
        exact Fg
      · cases h
        exact Fg
    · obtain ⟨r4, er4, h⟩ := gb_bd_e h
      have Fr4 := gb_Fr.tr Fg (gb_Fr.up (w_X11_isBought er4) (fun _ _ hw => hw.elim (fun h0 => Or.inr (Or.inl (h0))) (fun h0 => h0.elim (fun h1 => Or.inr (Or.inr (Or.inl (h1)))) (fun h1 => h1.elim (fun h2 => Or.inr (Or.inr (Or.inr (Or.inl (h2))))) (fun h2 => h2.elim (fun h3 => Or.inr (Or.inr (Or.inr (Or.inr (Or.inl (h3)))))) (fun h3 => h3.elim (fun h4 => Or.inr (Or.inr (Or.inr (Or.inr (Or.inr (Or.inl (h4))))))) (fun h4 => Or.inr (Or.inr (Or.inr (Or.inr (Or.inr (Or.inr (h4)))))))))))))
      rcases gb_ite_e h with h | h
      · exact gb_Fr.tr Fr4 (w_X11_spent_66 (fun hh => ih hh) h)
      · rcases gb_ite_e h with h | h
        · exact gb_Fr.tr Fr4 (w_X11_spent_61 (fun hh => w_X11_spent_66 (fun hh => ih hh) hh) h)
        · exact gb_Fr.tr Fr4 (w_X11_spent_61 (fun hh => w_X11_spent_66 (fun hh => ih hh) hh) h)
set_option maxRecDepth 100000 in
set_option maxHeartbeats 4000000 in
theorem w_X11_spent {sh : List gb_Sh} {x1 : Int32} {x2 : Int32} {x3 : Int32} {g : gb_G}  {o : (gb_G × Int32)} (h : f_X11_spent sh g x1 x2 x3 = some o) : gb_Fr (fun c k => (c = 77 ∧ k = 0) ∨ (c = 77 ∧ k = 34) ∨ (c = 77 ∧ k = 38) ∨ (c = 77 ∧ k = 39) ∨ (c = 77 ∧ k = 40) ∨ c = 95 ∨ c = 97) g o.1 := by
  unfold f_X11_spent at h
  have Fg : gb_Fr (fun c k => (c = 77 ∧ k = 0) ∨ (c = 77 ∧ k = 34) ∨ (c = 77 ∧ k = 38) ∨ (c = 77 ∧ k = 39) ∨ (c = 77 ∧ k = 40) ∨ c = 95 ∨ c = 97) g g := gb_Fr.rf
  obtain ⟨g1, eg1, h⟩ := gb_let_x h
  have Fg1 := gb_Fr.tr Fg (gb_Fr.pi (Or.inl (⟨rfl, rfl⟩)) eg1)
  obtain ⟨r2, er2, h⟩ := gb_bd_e h
  have Fr2 := gb_Fr.tr Fg1 (gb_Fr.up (w_X11_areSpent er2) (fun _ _ hw => hw.elim))
  rcases gb_ite_e h with h | h
  · cases h
    exact Fr2
  · exact gb_Fr.tr Fr2 (w_X11_spent_24 _ h)
set_option maxRecDepth 100000 in
set_option maxHeartbeats 4000000 in
theorem w_X11_ask_236 {sh : List gb_Sh} {y3 : Int32} {y5 : Int32} {y6 : Int32} {g : gb_G}  {o : (gb_G × Int32)} (h : f_X11_ask_236 sh g y3 y5 y6 = some o) : gb_Fr (fun c k => (c = 77 ∧ k = 0) ∨ (c = 77 ∧ k = 34) ∨ (c = 77 ∧ k = 38) ∨ (c = 77 ∧ k = 39) ∨ (c = 77 ∧ k = 40) ∨ c = 95 ∨ c = 97 ∨ c = 100) g o.1 := by
  unfold f_X11_ask_236 at h
  have Fg : gb_Fr (fun c k => (c = 77 ∧ k = 0) ∨ (c = 77 ∧ k = 34) ∨ (c = 77 ∧ k = 38) ∨ (c = 77 ∧ k = 39) ∨ (c = 77 ∧ k = 40) ∨ c = 95 ∨ c = 97 ∨ c = 100) g g := gb_Fr.rf
  rcases gb_ite_e h with h | h
  · cases h
    exact Fg
  · rcases gb_ite_e h with h | h
    · cases h
      exact Fg
    · cases h
      exact Fg
set_option maxRecDepth 100000 in
set_option maxHeartbeats 4000000 in
theorem w_X11_ask_228 {sh : List gb_Sh} {K140 : gb_G → Int32 → Int32 → Int32 → Int32 → Int32 → Option (gb_G × Int32)} {y3 : Int32} {y4 : Int32} {y6 : Int32} {y7 : Int32} {z0 : Int32} {g : gb_G} (hK140 : ∀ {a0 : gb_G} {a1 : Int32} {a2 : Int32} {a3 : Int32} {a4 : Int32} {a5 : Int32} {o : (gb_G × Int32)}, K140 a0 a1 a2 a3 a4 a5 = some o → gb_Fr (fun c k => (c = 77 ∧ k = 0) ∨ (c = 77 ∧ k = 34) ∨ (c = 77 ∧ k = 38) ∨ (c = 77 ∧ k = 39) ∨ (c = 77 ∧ k = 40) ∨ c = 95 ∨ c = 97 ∨ c = 100) a0 o.1) {o : (gb_G × Int32)} (h : f_X11_ask_228 sh K140 g y3 y4 y6 y7 z0 = some o) : gb_Fr (fun c k => (c = 77 ∧ k = 0) ∨ (c = 77 ∧ k = 34) ∨ (c = 77 ∧ k = 38) ∨ (c = 77 ∧ k = 39) ∨ (c = 77 ∧ k = 40) ∨ c = 95 ∨ c = 97 ∨ c = 100) g o.1 := by
  unfold f_X11_ask_228 at h
  have Fg : gb_Fr (fun c k => (c = 77 ∧ k = 0) ∨ (c = 77 ∧ k = 34) ∨ (c = 77 ∧ k = 38) ∨ (c = 77 ∧ k = 39) ∨ (c = 77 ∧ k = 40) ∨ c = 95 ∨ c = 97 ∨ c = 100) g g := gb_Fr.rf
  exact gb_Fr.tr Fg (hK140 h)
set_option maxRecDepth 100000 in
set_option maxHeartbeats 4000000 in
theorem w_X11_ask_212 {sh : List gb_Sh} {K140 : gb_G → Int32 → Int32 → Int32 → Int32 → Int32 → Option (gb_G × Int32)} {y3 : Int32} {y4 : Int32} {y5 : Int32} {y7 : Int32} {y8 : Int32} {z0 : Int32} {g : gb_G} (hK140 : ∀ {a0 : gb_G} {a1 : Int32} {a2 : Int32} {a3 : Int32} {a4 : Int32} {a5 : Int32} {o : (gb_G × Int32)}, K140 a0 a1 a2 a3 a4 a5 = some o → gb_Fr (fun c k => (c = 77 ∧ k = 0) ∨ (c = 77 ∧ k = 34) ∨ (c = 77 ∧ k = 38) ∨ (c = 77 ∧ k = 39) ∨ (c = 77 ∧ k = 40) ∨ c = 95 ∨ c = 97 ∨ c = 100) a0 o.1) {o : (gb_G × Int32)} (h : f_X11_ask_212 sh K140 g y3 y4 y5 y7 y8 z0 = some o) : gb_Fr (fun c k => (c = 77 ∧ k = 0) ∨ (c = 77 ∧ k = 34) ∨ (c = 77 ∧ k = 38) ∨ (c = 77 ∧ k = 39) ∨ (c = 77 ∧ k = 40) ∨ c = 95 ∨ c = 97 ∨ c = 100) g o.1 := by
  unfold f_X11_ask_212 at h
  have Fg : gb_Fr (fun c k => (c = 77 ∧ k = 0) ∨ (c = 77 ∧ k = 34) ∨ (c = 77 ∧ k = 38) ∨ (c = 77 ∧ k = 39) ∨ (c = 77 ∧ k = 40) ∨ c = 95 ∨ c = 97 ∨ c = 100) g g := gb_Fr.rf
  rcases gb_ite_e h with h | h
  · exact gb_Fr.tr Fg (w_X11_ask_228 (hK140) h)
  · exact gb_Fr.tr Fg (w_X11_ask_228 (hK140) h)
set_option maxRecDepth 100000 in
set_option maxHeartbeats 4000000 in
theorem w_X11_ask_196 {sh : List gb_Sh} {K140 : gb_G → Int32 → Int32 → Int32 → Int32 → Int32 → Option (gb_G × Int32)} {y3 : Int32} {y4 : Int32} {y5 : Int32} {y6 : Int32} {y7 : Int32} {z0 : Int32} {g : gb_G} (hK140 : ∀ {a0 : gb_G} {a1 : Int32} {a2 : Int32} {a3 : Int32} {a4 : Int32} {a5 : Int32} {o : (gb_G × Int32)}, K140 a0 a1 a2 a3 a4 a5 = some o → gb_Fr (fun c k => (c = 77 ∧ k = 0) ∨ (c = 77 ∧ k = 34) ∨ (c = 77 ∧ k = 38) ∨ (c = 77 ∧ k = 39) ∨ (c = 77 ∧ k = 40) ∨ c = 95 ∨ c = 97 ∨ c = 100) a0 o.1) {o : (gb_G × Int32)} (h : f_X11_ask_196 sh K140 g y3 y4 y5 y6 y7 z0 = some o) : gb_Fr (fun c k => (c = 77 ∧ k = 0) ∨ (c = 77 ∧ k = 34) ∨ (c = 77 ∧ k = 38) ∨ (c = 77 ∧ k = 39) ∨ (c = 77 ∧ k = 40) ∨ c = 95 ∨ c = 97 ∨ c = 100) g o.1 := by
  unfold f_X11_ask_196 at h
  have Fg : gb_Fr (fun c k => (c = 77 ∧ k = 0) ∨ (c = 77 ∧ k = 34) ∨ (c = 77 ∧ k = 38) ∨ (c = 77 ∧ k = 39) ∨ (c = 77 ∧ k = 40) ∨ c = 95 ∨ c = 97 ∨ c = 100) g g := gb_Fr.rf
  rcases gb_ite_e h with h | h
  · exact gb_Fr.tr Fg (w_X11_ask_212 (hK140) h)
  · exact gb_Fr.tr Fg (w_X11_ask_212 (hK140) h)
set_option maxRecDepth 100000 in
set_option maxHeartbeats 4000000 in
theorem w_X11_ask_140 {sh : List gb_Sh}  : ∀ (n : Nat) {g : gb_G} {y3 : Int32} {y4 : Int32} {y5 : Int32} {y6 : Int32} {y7 : Int32} {o : (gb_G × Int32)} (h : f_X11_ask_140 sh n g y3 y4 y5 y6 y7 = some o), gb_Fr (fun c k => (c = 77 ∧ k = 0) ∨ (c = 77 ∧ k = 34) ∨ (c = 77 ∧ k = 38) ∨ (c = 77 ∧ k = 39) ∨ (c = 77 ∧ k = 40) ∨ c = 95 ∨ c = 97 ∨ c = 100) g o.1 := by
  intro n
  induction n with
  | zero => intro g y3 y4 y5 y6 y7 o h; cases h
  | succ n ih =>
    intro g y3 y4 y5 y6 y7 o h
    rw [f_X11_ask_140] at h
    have Fg : gb_Fr (fun c k => (c = 77 ∧ k = 0) ∨ (c = 77 ∧ k = 34) ∨ (c = 77 ∧ k = 38) ∨ (c = 77 ∧ k = 39) ∨ (c = 77 ∧ k = 40) ∨ c = 95 ∨ c = 97 ∨ c = 100) g g := gb_Fr.rf
    rcases gb_ite_e h with h | h
    · exact gb_Fr.tr Fg (w_X11_ask_236 h)
    · rcases gb_ite_e h with h | h
      · exact gb_Fr.tr Fg (w_X11_ask_236 h)
      · obtain ⟨-, h⟩ := gb_ck_e h
        obtain ⟨-, h⟩ := gb_ck_e h
        rcases gb_ite_e h with h | h
        · obtain ⟨-, h⟩ := gb_ck_e h
          exact gb_Fr.tr Fg (w_X11_ask_196 (fun hh => ih hh) h)
        · obtain ⟨-, h⟩ := gb_ck_e h
          exact gb_Fr.tr Fg (w_X11_ask_196 (fun hh => ih hh) h)
set_option maxRecDepth 100000 in
set_option maxHeartbeats 4000000 in
theorem w_X11_ask_123 {sh : List gb_Sh} {K55 : gb_G → Int32 → Int32 → Int32 → Int32 → Int32 → Option (gb_G × Int32)} {y1 : Int32} {y2 : Int32} {y3 : Int32} {y4 : Int32} {y5 : Int32} {g : gb_G} (hK55 : ∀ {a0 : gb_G} {a1 : Int32} {a2 : Int32} {a3 : Int32} {a4 : Int32} {a5 : Int32} {o : (gb_G × Int32)}, K55 a0 a1 a2 a3 a4 a5 = some o → gb_Fr (fun c k => (c = 77 ∧ k = 0) ∨ (c = 77 ∧ k = 34) ∨ (c = 77 ∧ k = 38) ∨ (c = 77 ∧ k = 39) ∨ (c = 77 ∧ k = 40) ∨ c = 95 ∨ c = 97 ∨ c = 100) a0 o.1) {o : (gb_G × Int32)} (h : f_X11_ask_123 sh K55 g y1 y2 y3 y4 y5 = some o) : gb_Fr (fun c k => (c = 77 ∧ k = 0) ∨ (c = 77 ∧ k = 34) ∨ (c = 77 ∧ k = 38) ∨ (c = 77 ∧ k = 39) ∨ (c = 77 ∧ k = 40) ∨ c = 95 ∨ c = 97 ∨ c = 100) g o.1 := by
  unfold f_X11_ask_123 at h
  have Fg : gb_Fr (fun c k => (c = 77 ∧ k = 0) ∨ (c = 77 ∧ k = 34) ∨ (c = 77 ∧ k = 38) ∨ (c = 77 ∧ k = 39) ∨ (c = 77 ∧ k = 40) ∨ c = 95 ∨ c = 97 ∨ c = 100) g g := gb_Fr.rf
  exact gb_Fr.tr Fg (hK55 h)
set_option maxRecDepth 100000 in
set_option maxHeartbeats 4000000 in
theorem w_X11_ask_115 {sh : List gb_Sh} {K85 : gb_G → Int32 → Int32 → Int32 → Int32 → Int32 → Int32 → Option (gb_G × Int32)} {y1 : Int32} {y2 : Int32} {y3 : Int32} {y4 : Int32} {y5 : Int32} {y6 : Int32} {z0 : Int32} {z1 : Int32} {z2 : Int32} {g : gb_G} (hK85 : ∀ {a0 : gb_G} {a1 : Int32} {a2 : Int32} {a3 : Int32} {a4 : Int32} {a5 : Int32} {a6 : Int32} {o : (gb_G × Int32)}, K85 a0 a1 a2 a3 a4 a5 a6 = some o → gb_Fr (fun c k => (c = 77 ∧ k = 0) ∨ (c = 77 ∧ k = 34) ∨ (c = 77 ∧ k = 38) ∨ (c = 77 ∧ k = 39) ∨ (c = 77 ∧ k = 40) ∨ c = 95 ∨ c = 97 ∨ c = 100) a0 o.1) {o : (gb_G × Int32)} (h : f_X11_ask_115 sh K85 g y1 y2 y3 y4 y5 y6 z0 z1 z2 = some o) : gb_Fr (fun c k => (c = 77 ∧ k = 0) ∨ (c = 77 ∧ k = 34) ∨ (c = 77 ∧ k = 38) ∨ (c = 77 ∧ k = 39) ∨ (c = 77 ∧ k = 40) ∨ c = 95 ∨ c = 97 ∨ c = 100) g o.1 := by
  unfold f_X11_ask_115 at h
  have Fg : gb_Fr (fun c k => (c = 77 ∧ k = 0) ∨ (c = 77 ∧ k = 34) ∨ (c = 77 ∧ k = 38) ∨ (c = 77 ∧ k = 39) ∨ (c = 77 ∧ k = 40) ∨ c = 95 ∨ c = 97 ∨ c = 100) g g := gb_Fr.rf
  obtain ⟨-, h⟩ := gb_ck_e h
  obtain ⟨g16, eg16, h⟩ := gb_let_x h
  have Fg16 := gb_Fr.tr Fg (gb_Fr.pi (Or.inr (Or.inr (Or.inr (Or.inr (Or.inr (Or.inr (Or.inr (rfl)))))))) eg16)
  exact gb_Fr.tr Fg16 (hK85 h)
set_option maxRecDepth 100000 in
set_option maxHeartbeats 4000000 in
theorem w_X11_ask_85 {sh : List gb_Sh} {K123 : gb_G → Int32 → Int32 → Int32 → Int32 → Int32 → Option (gb_G × Int32)} (hK123 : ∀ {a0 : gb_G} {a1 : Int32} {a2 : Int32} {a3 : Int32} {a4 : Int32} {a5 : Int32} {o : (gb_G × Int32)}, K123 a0 a1 a2 a3 a4 a5 = some o → gb_Fr (fun c k => (c = 77 ∧ k = 0) ∨ (c = 77 ∧ k = 34) ∨ (c = 77 ∧ k = 38) ∨ (c = 77 ∧ k = 39) ∨ (c = 77 ∧ k = 40) ∨ c = 95 ∨ c = 97 ∨ c = 100) a0 o.1) : ∀ (n : Nat) {g : gb_G} {y1 : Int32} {y2 : Int32} {y3 : Int32} {y4 : Int32} {y5 : Int32} {y6 : Int32} {o : (gb_G × Int32)} (h : f_X11_ask_85 sh K123 n g y1 y2 y3 y4 y5 y6 = some o), gb_Fr (fun c k => (c = 77 ∧ k = 0) ∨ (c = 77 ∧ k = 34) ∨ (c = 77 ∧ k = 38) ∨ (c = 77 ∧ k = 39) ∨ (c = 77 ∧ k = 40) ∨ c = 95 ∨ c = 97 ∨ c = 100) g o.1 := by
  intro n
  induction n with
  | zero => intro g y1 y2 y3 y4 y5 y6 o h; cases h
  | succ n ih =>
    intro g y1 y2 y3 y4 y5 y6 o h
    rw [f_X11_ask_85] at h
    have Fg : gb_Fr (fun c k => (c = 77 ∧ k = 0) ∨ (c = 77 ∧ k = 34) ∨ (c = 77 ∧ k = 38) ∨ (c = 77 ∧ k = 39) ∨ (c = 77 ∧ k = 40) ∨ c = 95 ∨ c = 97 ∨ c = 100) g g := gb_Fr.rf
    rcases gb_ite_e h with h | h
    · exact gb_Fr.tr Fg (hK123 h)
    · obtain ⟨-, h⟩ := gb_ck_e h
      obtain ⟨r13, er13, h⟩ := gb_bd_e h
      have Fr13 := gb_Fr.tr Fg (gb_Fr.up (w_X11_is er13) (fun _ _ hw => hw.elim))
      rcases gb_ite_e h with h | h
      · exact gb_Fr.tr Fr13 (w_X11_ask_115 (fun hh => ih hh) h)
      · exact gb_Fr.tr Fr13 (w_X11_ask_115 (fun hh => ih hh) h)
set_option maxRecDepth 100000 in
set_option maxHeartbeats 4000000 in
theorem w_X11_ask_55 {sh : List gb_Sh}  : ∀ (n : Nat) {g : gb_G} {y1 : Int32} {y2 : Int32} {y3 : Int32} {y4 : Int32} {y5 : Int32} {o : (gb_G × Int32)} (h : f_X11_ask_55 sh n g y1 y2 y3 y4 y5 = some o), gb_Fr (fun c k => (c = 77 ∧ k = 0) ∨ (c = 77 ∧ k = 34) ∨ (c = 77 ∧ k = 38) ∨ (c = 77 ∧ k = 39) ∨ (c = 77 ∧ k = 40) ∨ c = 95 ∨ c = 97 ∨ c = 100) g o.1 := by
  intro n
  induction n with
  | zero => intro g y1 y2 y3 y4 y5 o h; cases h
  | succ n ih =>
    intro g y1 y2 y3 y4 y5 o h
    rw [f_X11_ask_55] at h
    have Fg : gb_Fr (fun c k => (c = 77 ∧ k = 0) ∨ (c = 77 ∧ k = 34) ∨ (c = 77 ∧ k = 38) ∨ (c = 77 ∧ k = 39) ∨ (c = 77 ∧ k = 40) ∨ c = 95 ∨ c = 97 ∨ c = 100) g g := gb_Fr.rf
    rcases gb_ite_e h with h | h
    · exact gb_Fr.tr Fg (w_X11_ask_140 _ h)
    · obtain ⟨r10, er10, h⟩ := gb_bd_e h
      have Fr10 := gb_Fr.tr Fg (gb_Fr.up (w_X11_isBought er10) (fun _ _ hw => hw.elim (fun h0 => Or.inr (Or.inl (h0))) (fun h0 => h0.elim (fun h1 => Or.inr (Or.inr (Or.inl (h1)))) (fun h1 => h1.elim (fun h2 => Or.inr (Or.inr (Or.inr (Or.inl (h2))))) (fun h2 => h2.elim (fun h3 => Or.inr (Or.inr (Or.inr (Or.inr (Or.inl (h3)))))) (fun h3 => h3.elim (fun h4 => Or.inr (Or.inr (Or.inr (Or.inr (Or.inr (Or.inl (h4))))))) (fun h4 => Or.inr (Or.inr (Or.inr (Or.inr (Or.inr (Or.inr (Or.inl (h4))))))))))))))
      rcases gb_ite_e h with h | h
      · exact gb_Fr.tr Fr10 (w_X11_ask_123 (fun hh => ih hh) h)
      · exact gb_Fr.tr Fr10 (w_X11_ask_85 (fun hh => w_X11_ask_123 (fun hh => ih hh) hh) _ h)
set_option maxRecDepth 100000 in
set_option maxHeartbeats 4000000 in
theorem w_X11_ask_28 {sh : List gb_Sh}  : ∀ (n : Nat) {g : gb_G} {y1 : Int32} {y2 : Int32} {y3 : Int32} {y4 : Int32} {o : (gb_G × Int32)} (h : f_X11_ask_28 sh n g y1 y2 y3 y4 = some o), gb_Fr (fun c k => (c = 77 ∧ k = 0) ∨ (c = 77 ∧ k = 34) ∨ (c = 77 ∧ k = 38) ∨ (c = 77 ∧ k = 39) ∨ (c = 77 ∧ k = 40) ∨ c = 95 ∨ c = 97 ∨ c = 100) g o.1 := by
  intro n
  induction n with
  | zero => intro g y1 y2 y3 y4 o h; cases h
  | succ n ih =>
    intro g y1 y2 y3 y4 o h
    rw [f_X11_ask_28] at h
    have Fg : gb_Fr (fun c k => (c = 77 ∧ k = 0) ∨ (c = 77 ∧ k = 34) ∨ (c = 77 ∧ k = 38) ∨ (c = 77 ∧ k = 39) ∨ (c = 77 ∧ k = 40) ∨ c = 95 ∨ c = 97 ∨ c = 100) g g := gb_Fr.rf
    rcases gb_ite_e h with h | h
    · exact gb_Fr.tr Fg (w_X11_ask_55 _ h)
    · obtain ⟨-, h⟩ := gb_ck_e h
      obtain ⟨g18, eg18, h⟩ := gb_let_x h
      have Fg18 := gb_Fr.tr Fg (gb_Fr.pi (Or.inr (Or.inr (Or.inr (Or.inr (Or.inr (Or.inr (Or.inr (rfl)))))))) eg18)
      exact gb_Fr.tr Fg18 (ih h)
set_option maxRecDepth 100000 in
set_option maxHeartbeats 4000000 in
theorem w_X11_ask {sh : List gb_Sh} {x1 : Int32} {x2 : Int32} {x3 : Int32} {g : gb_G}  {o : (gb_G × Int32)} (h : f_X11_ask sh g x1 x2 x3 = some o) : gb_Fr (fun c k => (c = 77 ∧ k = 0) ∨ (c = 77 ∧ k = 34) ∨ (c = 77 ∧ k = 38) ∨ (c = 77 ∧ k = 39) ∨ (c = 77 ∧ k = 40) ∨ c = 95 ∨ c = 97 ∨ c = 100) g o.1 := by
  unfold f_X11_ask at h
  have Fg : gb_Fr (fun c k => (c = 77 ∧ k = 0) ∨ (c = 77 ∧ k = 34) ∨ (c = 77 ∧ k = 38) ∨ (c = 77 ∧ k = 39) ∨ (c = 77 ∧ k = 40) ∨ c = 95 ∨ c = 97 ∨ c = 100) g g := gb_Fr.rf
  obtain ⟨g1, eg1, h⟩ := gb_let_x h
  have Fg1 := gb_Fr.tr Fg (gb_Fr.pi (Or.inl (⟨rfl, rfl⟩)) eg1)
  obtain ⟨r2, er2, h⟩ := gb_bd_e h
  have Fr2 := gb_Fr.tr Fg1 (gb_Fr.up (w_X11_areSpent er2) (fun _ _ hw => hw.elim))
  rcases gb_ite_e h with h | h
  · cases h
    exact Fr2
  · obtain ⟨r4, er4, h⟩ := gb_bd_e h
    have Fr4 := gb_Fr.tr Fr2 (gb_Fr.up (w_X11_in er4) (fun _ _ hw => hw.elim))
    rcases gb_ite_e h with h | h
    · cases h
      exact Fr4
    · exact gb_Fr.tr Fr4 (w_X11_ask_28 _ h)
set_option maxRecDepth 100000 in
set_option maxHeartbeats 4000000 in
theorem w_X11_fair_130 {sh : List gb_Sh} {K35 : gb_G → Int32 → Int32 → Int32 → Int32 → Int32 → Option (gb_G × Int32)} {y1 : Int32} {y2 : Int32} {y4 : Int32} {y5 : Int32} {z0 : Int32} {g : gb_G} (hK35 : ∀ {a0 : gb_G} {a1 : Int32} {a2 : Int32} {a3 : Int32} {a4 : Int32} {a5 : Int32} {o : (gb_G × Int32)}, K35 a0 a1 a2 a3 a4 a5 = some o → gb_Fr (fun c k => (c = 77 ∧ k = 0)) a0 o.1) {o : (gb_G × Int32)} (h : f_X11_fair_130 sh K35 g y1 y2 y4 y5 z0 = some o) : gb_Fr (fun c k => (c = 77 ∧ k = 0)) g o.1 := by
  unfold f_X11_fair_130 at h
  have Fg : gb_Fr (fun c k => (c = 77 ∧ k = 0)) g g := gb_Fr.rf
  exact gb_Fr.tr Fg (hK35 h)
set_option maxRecDepth 100000 in
set_option maxHeartbeats 4000000 in
theorem w_X11_fair_116 {sh : List gb_Sh} {K35 : gb_G → Int32 → Int32 → Int32 → Int32 → Int32 → Option (gb_G × Int32)} {y1 : Int32} {y2 : Int32} {y3 : Int32} {y5 : Int32} {y6 : Int32} {z0 : Int32} {g : gb_G} (hK35 : ∀ {a0 : gb_G} {a1 : Int32} {a2 : Int32} {a3 : Int32} {a4 : Int32} {a5 : Int32} {o : (gb_G × Int32)}, K35 a0 a1 a2 a3 a4 a5 = some o → gb_Fr (fun c k => (c = 77 ∧ k = 0)) a0 o.1) {o : (gb_G × Int32)} (h : f_X11_fair_116 sh K35 g y1 y2 y3 y5 y6 z0 = some o) : gb_Fr (fun c k => (c = 77 ∧ k = 0)) g o.1 := by
  unfold f_X11_fair_116 at h
  have Fg : gb_Fr (fun c k => (c = 77 ∧ k = 0)) g g := gb_Fr.rf
  rcases gb_ite_e h with h | h
  · exact gb_Fr.tr Fg (w_X11_fair_130 (hK35) h)
  · exact gb_Fr.tr Fg (w_X11_fair_130 (hK35) h)
set_option maxRecDepth 100000 in
set_option maxHeartbeats 4000000 in
theorem w_X11_fair_94 {sh : List gb_Sh} {K48 : gb_G → Int32 → Int32 → Int32 → Int32 → Int32 → Int32 → Int32 → Option (gb_G × Int32)} {y1 : Int32} {y2 : Int32} {y3 : Int32} {y4 : Int32} {y5 : Int32} {y7 : Int32} {z0 : Int32} {z1 : Int32} {g : gb_G} (hK48 : ∀ {a0 : gb_G} {a1 : Int32} {a2 : Int32} {a3 : Int32} {a4 : Int32} {a5 : Int32} {a6 : Int32} {a7 : Int32} {o : (gb_G × Int32)}, K48 a0 a1 a2 a3 a4 a5 a6 a7 = some o → gb_Fr (fun c k => (c = 77 ∧ k = 0)) a0 o.1) {o : (gb_G × Int32)} (h : f_X11_fair_94 sh K48 g y1 y2 y3 y4 y5 y7 z0 z1 = some o) : gb_Fr (fun c k => (c = 77 ∧ k = 0)) g o.1 := by
  unfold f_X11_fair_94 at h
  have Fg : gb_Fr (fun c k => (c = 77 ∧ k = 0)) g g := gb_Fr.rf
  exact gb_Fr.tr Fg (hK48 h)
set_option maxRecDepth 100000 in
set_option maxHeartbeats 4000000 in
theorem w_X11_fair_48 {sh : List gb_Sh} {K35 : gb_G → Int32 → Int32 → Int32 → Int32 → Int32 → Option (gb_G × Int32)} (hK35 : ∀ {a0 : gb_G} {a1 : Int32} {a2 : Int32} {a3 : Int32} {a4 : Int32} {a5 : Int32} {o : (gb_G × Int32)}, K35 a0 a1 a2 a3 a4 a5 = some o → gb_Fr (fun c k => (c = 77 ∧ k = 0)) a0 o.1) : ∀ (n : Nat) {g : gb_G} {y1 : Int32} {y2 : Int32} {y3 : Int32} {y4 : Int32} {y5 : Int32} {y6 : Int32} {y7 : Int32} {o : (gb_G × Int32)} (h : f_X11_fair_48 sh K35 n g y1 y2 y3 y4 y5 y6 y7 = some o), gb_Fr (fun c k => (c = 77 ∧ k = 0)) g o.1 := by
  intro n
  induction n with
  | zero => intro g y1 y2 y3 y4 y5 y6 y7 o h; cases h
  | succ n ih =>
    intro g y1 y2 y3 y4 y5 y6 y7 o h
    rw [f_X11_fair_48] at h
    have Fg : gb_Fr (fun c k => (c = 77 ∧ k = 0)) g g := gb_Fr.rf
    rcases gb_ite_e h with h | h
    · rcases gb_ite_e h with h | h
      · exact gb_Fr.tr Fg (w_X11_fair_116 (hK35) h)
      · exact gb_Fr.tr Fg (w_X11_fair_116 (hK35) h)
    · obtain ⟨-, h⟩ := gb_ck_e h
      rcases gb_ite_e h with h | h
      · exact gb_Fr.tr Fg (w_X11_fair_94 (fun hh => ih hh) h)
      · exact gb_Fr.tr Fg (w_X11_fair_94 (fun hh => ih hh) h)
set_option maxRecDepth 100000 in
set_option maxHeartbeats 4000000 in
theorem w_X11_fair_35 {sh : List gb_Sh}  : ∀ (n : Nat) {g : gb_G} {y1 : Int32} {y2 : Int32} {y3 : Int32} {y4 : Int32} {y5 : Int32} {o : (gb_G × Int32)} (h : f_X11_fair_35 sh n g y1 y2 y3 y4 y5 = some o), gb_Fr (fun c k => (c = 77 ∧ k = 0)) g o.1 := by
  intro n
  induction n with
  | zero => intro g y1 y2 y3 y4 y5 o h; cases h
  | succ n ih =>
    intro g y1 y2 y3 y4 y5 o h
    rw [f_X11_fair_35] at h
    have Fg : gb_Fr (fun c k => (c = 77 ∧ k = 0)) g g := gb_Fr.rf
    rcases gb_ite_e h with h | h
    · rcases gb_ite_e h with h | h
      · cases h
        exact Fg
      · cases h
        exact Fg
    · exact gb_Fr.tr Fg (w_X11_fair_48 (fun hh => ih hh) _ h)
set_option maxRecDepth 100000 in
set_option maxHeartbeats 4000000 in
theorem w_X11_fair {sh : List gb_Sh} {x1 : Int32} {x2 : Int32} {g : gb_G}  {o : (gb_G × Int32)} (h : f_X11_fair sh g x1 x2 = some o) : gb_Fr (fun c k => (c = 77 ∧ k = 0)) g o.1 := by
  unfold f_X11_fair at h
  have Fg : gb_Fr (fun c k => (c = 77 ∧ k = 0)) g g := gb_Fr.rf
  obtain ⟨g1, eg1, h⟩ := gb_let_x h
  have Fg1 := gb_Fr.tr Fg (gb_Fr.pi (⟨rfl, rfl⟩) eg1)
  obtain ⟨r2, er2, h⟩ := gb_bd_e h
  have Fr2 := gb_Fr.tr Fg1 (gb_Fr.up (w_X11_isGood er2) (fun _ _ hw => hw.elim))
  rcases gb_ite_e h with h | h
  · cases h
    exact Fr2
  · obtain ⟨r4, er4, h⟩ := gb_bd_e h
    have Fr4 := gb_Fr.tr Fr2 (gb_Fr.up (w_X11_in er4) (fun _ _ hw => hw.elim))
    rcases gb_ite_e h with h | h
    · cases h
      exact Fr4
    · exact gb_Fr.tr Fr4 (w_X11_fair_35 _ h)
set_option maxRecDepth 100000 in
set_option maxHeartbeats 4000000 in
theorem w_X11_hear {sh : List gb_Sh} {x1 : Int32} {g : gb_G}  {o : (gb_G × Int32)} (h : f_X11_hear sh g x1 = some o) : gb_Fr (fun c k => (c = 77 ∧ k = 0) ∨ (c = 77 ∧ k = 1) ∨ c = 78 ∨ c = 79) g o.1 := by
  unfold f_X11_hear at h
  have Fg : gb_Fr (fun c k => (c = 77 ∧ k = 0) ∨ (c = 77 ∧ k = 1) ∨ c = 78 ∨ c = 79) g g := gb_Fr.rf
  obtain ⟨g1, eg1, h⟩ := gb_let_x h
  have Fg1 := gb_Fr.tr Fg (gb_Fr.pi (Or.inl (⟨rfl, rfl⟩)) eg1)
  obtain ⟨r2, er2, h⟩ := gb_bd_e h
  have Fr2 := gb_Fr.tr Fg1 (gb_Fr.up (w_X11_in er2) (fun _ _ hw => hw.elim))
  rcases gb_ite_e h with h | h
  · obtain ⟨r11, er11, h⟩ := gb_bd_e h
    have Fr11 := gb_Fr.tr Fr2 (gb_Fr.up (w_X11_tell er11) (fun _ _ hw => hw.elim (fun h0 => Or.inr (Or.inl (h0))) (fun h0 => Or.inr (Or.inr (Or.inl (h0))))))
    cases h
    exact Fr11
  · rcases gb_ite_e h with h | h
    · obtain ⟨r9, er9, h⟩ := gb_bd_e h
      have Fr9 := gb_Fr.tr Fr2 (gb_Fr.up (w_X11_tell er9) (fun _ _ hw => hw.elim (fun h0 => Or.inr (Or.inl (h0))) (fun h0 => Or.inr (Or.inr (Or.inl (h0))))))
      cases h
      exact Fr9
    · obtain ⟨-, h⟩ := gb_ck_e h
      obtain ⟨g5, eg5, h⟩ := gb_let_x h
      have Fg5 := gb_Fr.tr Fr2 (gb_Fr.pi (Or.inr (Or.inr (Or.inr (rfl)))) eg5)
      obtain ⟨g6, eg6, h⟩ := gb_let_x h
      have Fg6 := gb_Fr.tr Fg5 (gb_Fr.pi (Or.inr (Or.inr (Or.inr (rfl)))) eg6)
      obtain ⟨r7, er7, h⟩ := gb_bd_e h
      have Fr7 := gb_Fr.tr Fg6 (gb_Fr.up (w_X11_tell er7) (fun _ _ hw => hw.elim (fun h0 => Or.inr (Or.inl (h0))) (fun h0 => Or.inr (Or.inr (Or.inl (h0))))))
      cases h
      exact Fr7
set_option maxRecDepth 100000 in
set_option maxHeartbeats 4000000 in
theorem w_X11_forget {sh : List gb_Sh} {g : gb_G}  {o : (gb_G × Int32)} (h : f_X11_forget sh g = some o) : gb_Fr (fun c k => (c = 77 ∧ k = 0) ∨ c = 79) g o.1 := by
  unfold f_X11_forget at h
  have Fg : gb_Fr (fun c k => (c = 77 ∧ k = 0) ∨ c = 79) g g := gb_Fr.rf
  obtain ⟨g1, eg1, h⟩ := gb_let_x h
  have Fg1 := gb_Fr.tr Fg (gb_Fr.pi (Or.inl (⟨rfl, rfl⟩)) eg1)
  obtain ⟨g2, eg2, h⟩ := gb_let_x h
  have Fg2 := gb_Fr.tr Fg1 (gb_Fr.pi (Or.inr (rfl)) eg2)
  cases h
  exact Fg2
set_option maxRecDepth 100000 in
set_option maxHeartbeats 4000000 in
theorem w_X11_trend_29 {sh : List gb_Sh} {g : gb_G}  {o : (gb_G × Int32)} (h : f_X11_trend_29 sh g = some o) : gb_Fr (fun c k => (c = 77 ∧ k = 0) ∨ (c = 77 ∧ k = 41) ∨ (c = 77 ∧ k = 42)) g o.1 := by
  unfold f_X11_trend_29 at h
  have Fg : gb_Fr (fun c k => (c = 77 ∧ k = 0) ∨ (c = 77 ∧ k = 41) ∨ (c = 77 ∧ k = 42)) g g := gb_Fr.rf
  cases h
  exact Fg
set_option maxRecDepth 100000 in
set_option maxHeartbeats 4000000 in
theorem w_X11_trend_179 {sh : List gb_Sh} {z0 : Int64} {g : gb_G}  {o : (gb_G × Int32)} (h : f_X11_trend_179 sh g z0 = some o) : gb_Fr (fun c k => (c = 77 ∧ k = 0) ∨ (c = 77 ∧ k = 41) ∨ (c = 77 ∧ k = 42)) g o.1 := by
  unfold f_X11_trend_179 at h
  have Fg : gb_Fr (fun c k => (c = 77 ∧ k = 0) ∨ (c = 77 ∧ k = 41) ∨ (c = 77 ∧ k = 42)) g g := gb_Fr.rf
  cases h
  exact Fg
set_option maxRecDepth 100000 in
set_option maxHeartbeats 4000000 in
theorem w_X11_trend_162 {sh : List gb_Sh} {y1 : Int32} {g : gb_G}  {o : (gb_G × Int32)} (h : f_X11_trend_162 sh g y1 = some o) : gb_Fr (fun c k => (c = 77 ∧ k = 0) ∨ (c = 77 ∧ k = 41) ∨ (c = 77 ∧ k = 42)) g o.1 := by
  unfold f_X11_trend_162 at h
  have Fg : gb_Fr (fun c k => (c = 77 ∧ k = 0) ∨ (c = 77 ∧ k = 41) ∨ (c = 77 ∧ k = 42)) g g := gb_Fr.rf
  rcases gb_ite_e h with h | h
  · exact gb_Fr.tr Fg (w_X11_trend_179 h)
  · exact gb_Fr.tr Fg (w_X11_trend_179 h)
set_option maxRecDepth 100000 in
set_option maxHeartbeats 4000000 in
theorem w_X11_trend_46 {sh : List gb_Sh}  : ∀ (n : Nat) {g : gb_G} {y1 : Int32} {y2 : Int32} {y3 : Int64} {y5 : Int64} {y7 : Int64} {y9 : Int64} {y11 : Int32} {o : (gb_G × Int32)} (h : f_X11_trend_46 sh n g y1 y2 y3 y5 y7 y9 y11 = some o), gb_Fr (fun c k => (c = 77 ∧ k = 0) ∨ (c = 77 ∧ k = 41) ∨ (c = 77 ∧ k = 42)) g o.1 := by
  intro n
  induction n with
  | zero => intro g y1 y2 y3 y5 y7 y9 y11 o h; cases h
  | succ n ih =>
    intro g y1 y2 y3 y5 y7 y9 y11 o h
    rw [f_X11_trend_46] at h
    have Fg : gb_Fr (fun c k => (c = 77 ∧ k = 0) ∨ (c = 77 ∧ k = 41) ∨ (c = 77 ∧ k = 42)) g g := gb_Fr.rf
    rcases gb_ite_e h with h | h
    · rcases gb_ite_e h with h | h
      · obtain ⟨r4, er4, h⟩ := gb_bd_e h
        have Fr4 := gb_Fr.tr Fg (gb_Fr.up (w_X11_lowest er4) (fun _ _ hw => hw.elim (fun h0 => Or.inr (Or.inl (h0))) (fun h0 => Or.inr (Or.inr (h0)))))
        exact gb_Fr.tr Fr4 (w_X11_trend_162 h)
      · obtain ⟨r6, er6, h⟩ := gb_bd_e h
        have Fr6 := gb_Fr.tr Fg (gb_Fr.up (w_X11_lowest er6) (fun _ _ hw => hw.elim (fun h0 => Or.inr (Or.inl (h0))) (fun h0 => Or.inr (Or.inr (h0)))))
        exact gb_Fr.tr Fr6 (w_X11_trend_162 h)
    · obtain ⟨-, h⟩ := gb_ck_e h
      obtain ⟨-, h⟩ := gb_ck_e h
      exact gb_Fr.tr Fg (ih h)
set_option maxRecDepth 100000 in
set_option maxHeartbeats 4000000 in
theorem w_X11_trend {sh : List gb_Sh} {x1 : Int32} {g : gb_G}  {o : (gb_G × Int32)} (h : f_X11_trend sh g x1 = some o) : gb_Fr (fun c k => (c = 77 ∧ k = 0) ∨ (c = 77 ∧ k = 41) ∨ (c = 77 ∧ k = 42)) g o.1 := by
  unfold f_X11_trend at h
  have Fg : gb_Fr (fun c k => (c = 77 ∧ k = 0) ∨ (c = 77 ∧ k = 41) ∨ (c = 77 ∧ k = 42)) g g := gb_Fr.rf
  obtain ⟨g1, eg1, h⟩ := gb_let_x h
  have Fg1 := gb_Fr.tr Fg (gb_Fr.pi (Or.inl (⟨rfl, rfl⟩)) eg1)
  rcases gb_ite_e h with h | h
  · exact gb_Fr.tr Fg1 (w_X11_trend_29 h)
  · obtain ⟨r2, er2, h⟩ := gb_bd_e h
    have Fr2 := gb_Fr.tr Fg1 (gb_Fr.up (w_X11_in er2) (fun _ _ hw => hw.elim))
    rcases gb_ite_e h with h | h
    · exact gb_Fr.tr Fr2 (w_X11_trend_29 h)
    · exact gb_Fr.tr Fr2 (w_X11_trend_46 _ h)
set_option maxRecDepth 100000 in
set_option maxHeartbeats 4000000 in
theorem w_X11_gets_25 {sh : List gb_Sh} {g : gb_G}  {o : (gb_G × Int64)} (h : f_X11_gets_25 sh g = some o) : gb_Fr (fun c k => (c = 77 ∧ k = 0) ∨ c = 101) g o.1 := by
  unfold f_X11_gets_25 at h
  have Fg : gb_Fr (fun c k => (c = 77 ∧ k = 0) ∨ c = 101) g g := gb_Fr.rf
  cases h
  exact Fg
set_option maxRecDepth 100000 in
set_option maxHeartbeats 4000000 in
theorem w_X11_gets_90 {sh : List gb_Sh} {K80 : gb_G → Int32 → Int32 → Int32 → Option (gb_G × Int64)} (hK80 : ∀ {a0 : gb_G} {a1 : Int32} {a2 : Int32} {a3 : Int32} {o : (gb_G × Int64)}, K80 a0 a1 a2 a3 = some o → gb_Fr (fun c k => (c = 77 ∧ k = 0) ∨ c = 101) a0 o.1) : ∀ (n : Nat) {g : gb_G} {y2 : Int32} {y3 : Int32} {y4 : Int32} {y5 : Int32} {o : (gb_G × Int64)} (h : f_X11_gets_90 sh K80 n g y2 y3 y4 y5 = some o), gb_Fr (fun c k => (c = 77 ∧ k = 0) ∨ c = 101) g o.1 := by
  intro n
  induction n with
  | zero => intro g y2 y3 y4 y5 o h; cases h
  | succ n ih =>
    intro g y2 y3 y4 y5 o h
    rw [f_X11_gets_90] at h
    have Fg : gb_Fr (fun c k => (c = 77 ∧ k = 0) ∨ c = 101) g g := gb_Fr.rf
    rcases gb_ite_e h with h | h
    · exact gb_Fr.tr Fg (hK80 h)
    · obtain ⟨-, h⟩ := gb_ck_e h
      obtain ⟨-, h⟩ := gb_ck_e h
      obtain ⟨g8, eg8, h⟩ := gb_let_x h
      have Fg8 := gb_Fr.tr Fg (gb_Fr.pj (Or.inr (rfl)) eg8)
      obtain ⟨-, h⟩ := gb_ck_e h
      obtain ⟨-, h⟩ := gb_ck_e h
      obtain ⟨g11, eg11, h⟩ := gb_let_x h
      have Fg11 := gb_Fr.tr Fg8 (gb_Fr.pj (Or.inr (rfl)) eg11)
      exact gb_Fr.tr Fg11 (ih h)
set_option maxRecDepth 100000 in
set_option maxHeartbeats 4000000 in
theorem w_X11_gets_80 {sh : List gb_Sh}  : ∀ (n : Nat) {g : gb_G} {y2 : Int32} {y3 : Int32} {y4 : Int32} {o : (gb_G × Int64)} (h : f_X11_gets_80 sh n g y2 y3 y4 = some o), gb_Fr (fun c k => (c = 77 ∧ k = 0) ∨ c = 101) g o.1 := by
  intro n
  induction n with
  | zero => intro g y2 y3 y4 o h; cases h
  | succ n ih =>
    intro g y2 y3 y4 o h
    rw [f_X11_gets_80] at h
    have Fg : gb_Fr (fun c k => (c = 77 ∧ k = 0) ∨ c = 101) g g := gb_Fr.rf
    rcases gb_ite_e h with h | h
    · cases h
      exact Fg
    · exact gb_Fr.tr Fg (w_X11_gets_90 (fun hh => ih hh) _ h)
set_option maxRecDepth 100000 in
set_option maxHeartbeats 4000000 in
theorem w_X11_gets_62 {sh : List gb_Sh} {K31 : gb_G → Int32 → Int32 → Int32 → Option (gb_G × Int64)} {y1 : Int32} {y2 : Int32} {y3 : Int32} {z0 : Int64} {z1 : Int32} {g : gb_G} (hK31 : ∀ {a0 : gb_G} {a1 : Int32} {a2 : Int32} {a3 : Int32} {o : (gb_G × Int64)}, K31 a0 a1 a2 a3 = some o → gb_Fr (fun c k => (c = 77 ∧ k = 0) ∨ c = 101) a0 o.1) {o : (gb_G × Int64)} (h : f_X11_gets_62 sh K31 g y1 y2 y3 z0 z1 = some o) : gb_Fr (fun c k => (c = 77 ∧ k = 0) ∨ c = 101) g o.1 := by
  unfold f_X11_gets_62 at h
  have Fg : gb_Fr (fun c k => (c = 77 ∧ k = 0) ∨ c = 101) g g := gb_Fr.rf
  obtain ⟨-, h⟩ := gb_ck_e h
  obtain ⟨g14, eg14, h⟩ := gb_let_x h
  have Fg14 := gb_Fr.tr Fg (gb_Fr.pj (Or.inr (rfl)) eg14)
  exact gb_Fr.tr Fg14 (hK31 h)
set_option maxRecDepth 100000 in
set_option maxHeartbeats 4000000 in
theorem w_X11_gets_31 {sh : List gb_Sh}  : ∀ (n : Nat) {g : gb_G} {y1 : Int32} {y2 : Int32} {y3 : Int32} {o : (gb_G × Int64)} (h : f_X11_gets_31 sh n g y1 y2 y3 = some o), gb_Fr (fun c k => (c = 77 ∧ k = 0) ∨ c = 101) g o.1 := by
  intro n
  induction n with
  | zero => intro g y1 y2 y3 o h; cases h
  | succ n ih =>
    intro g y1 y2 y3 o h
    rw [f_X11_gets_31] at h
    have Fg : gb_Fr (fun c k => (c = 77 ∧ k = 0) ∨ c = 101) g g := gb_Fr.rf
    rcases gb_ite_e h with h | h
    · exact gb_Fr.tr Fg (w_X11_gets_80 _ h)
    · obtain ⟨-, h⟩ := gb_ck_e h
      rcases gb_ite_e h with h | h
      · exact gb_Fr.tr Fg (w_X11_gets_62 (fun hh => ih hh) h)
      · exact gb_Fr.tr Fg (w_X11_gets_62 (fun hh => ih hh) h)
set_option maxRecDepth 100000 in
set_option maxHeartbeats 4000000 in
theorem w_X11_gets {sh : List gb_Sh} {x1 : Int32} {x2 : Int32} {g : gb_G}  {o : (gb_G × Int64)} (h : f_X11_gets sh g x1 x2 = some o) : gb_Fr (fun c k => (c = 77 ∧ k = 0) ∨ c = 101) g o.1 := by
  unfold f_X11_gets at h
  have Fg : gb_Fr (fun c k => (c = 77 ∧ k = 0) ∨ c = 101) g g := gb_Fr.rf
  obtain ⟨g1, eg1, h⟩ := gb_let_x h
  have Fg1 := gb_Fr.tr Fg (gb_Fr.pi (Or.inl (⟨rfl, rfl⟩)) eg1)
  obtain ⟨r2, er2, h⟩ := gb_bd_e h
  have Fr2 := gb_Fr.tr Fg1 (gb_Fr.up (w_X11_isGood er2) (fun _ _ hw => hw.elim))
  rcases gb_ite_e h with h | h
  · exact gb_Fr.tr Fr2 (w_X11_gets_25 h)
  · obtain ⟨r4, er4, h⟩ := gb_bd_e h
    have Fr4 := gb_Fr.tr Fr2 (gb_Fr.up (w_X11_in er4) (fun _ _ hw => hw.elim))
    rcases gb_ite_e h with h | h
    · exact gb_Fr.tr Fr4 (w_X11_gets_25 h)
    · exact gb_Fr.tr Fr4 (w_X11_gets_31 _ h)
set_option maxRecDepth 100000 in
set_option maxHeartbeats 4000000 in
theorem w_X11_readSum_22 {sh : List gb_Sh} {y1 : Int32} {g : gb_G}  {o : (gb_G)} (h : f_X11_readSum_22 sh g y1 = some o) : gb_Fr (fun c k => (c = 77 ∧ k = 14) ∨ (c = 77 ∧ k = 15) ∨ (c = 77 ∧ k = 16) ∨ (c = 77 ∧ k = 17) ∨ (c = 77 ∧ k = 18) ∨ (c = 77 ∧ k = 19) ∨ (c = 77 ∧ k = 23) ∨ (c = 77 ∧ k = 26) ∨ (c = 77 ∧ k = 29) ∨ (c = 77 ∧ k = 30) ∨ c = 88 ∨ c = 89 ∨ c = 90 ∨ c = 91 ∨ c = 103) g o := by
  unfold f_X11_readSum_22 at h
  have Fg : gb_Fr (fun c k => (c = 77 ∧ k = 14) ∨ (c = 77 ∧ k = 15) ∨ (c = 77 ∧ k = 16) ∨ (c = 77 ∧ k = 17) ∨ (c = 77 ∧ k = 18) ∨ (c = 77 ∧ k = 19) ∨ (c = 77 ∧ k = 23) ∨ (c = 77 ∧ k = 26) ∨ (c = 77 ∧ k = 29) ∨ (c = 77 ∧ k = 30) ∨ c = 88 ∨ c = 89 ∨ c = 90 ∨ c = 91 ∨ c = 103) g g := gb_Fr.rf
  obtain ⟨-, h⟩ := gb_ck_e h
  obtain ⟨g4, eg4, h⟩ := gb_let_x h
  have Fg4 := gb_Fr.tr Fg (gb_Fr.pi (Or.inr (Or.inr (Or.inr (Or.inr (Or.inr (Or.inr (Or.inr (Or.inr (Or.inr (Or.inr (Or.inr (Or.inr (Or.inr (Or.inr (rfl))))))))))))))) eg4)
  cases h
  exact Fg4
set_option maxRecDepth 100000 in
set_option maxHeartbeats 4000000 in
theorem w_X11_readSum {sh : List gb_Sh} {x1 : Int32} {g : gb_G}  {o : (gb_G)} (h : f_X11_readSum sh g x1 = some o) : gb_Fr (fun c k => (c = 77 ∧ k = 14) ∨ (c = 77 ∧ k = 15) ∨ (c = 77 ∧ k = 16) ∨ (c = 77 ∧ k = 17) ∨ (c = 77 ∧ k = 18) ∨ (c = 77 ∧ k = 19) ∨ (c = 77 ∧ k = 23) ∨ (c = 77 ∧ k = 26) ∨ (c = 77 ∧ k = 29) ∨ (c = 77 ∧ k = 30) ∨ c = 88 ∨ c = 89 ∨ c = 90 ∨ c = 91 ∨ c = 103) g o := by
  unfold f_X11_readSum at h
  have Fg : gb_Fr (fun c k => (c = 77 ∧ k = 14) ∨ (c = 77 ∧ k = 15) ∨ (c = 77 ∧ k = 16) ∨ (c = 77 ∧ k = 17) ∨ (c = 77 ∧ k = 18) ∨ (c = 77 ∧ k = 19) ∨ (c = 77 ∧ k = 23) ∨ (c = 77 ∧ k = 26) ∨ (c = 77 ∧ k = 29) ∨ (c = 77 ∧ k = 30) ∨ c = 88 ∨ c = 89 ∨ c = 90 ∨ c = 91 ∨ c = 103) g g := gb_Fr.rf
  obtain ⟨-, h⟩ := gb_ck_e h
  obtain ⟨g2, eg2, h⟩ := gb_let_x h
  have Fg2 := gb_Fr.tr Fg (gb_Fr.pi (Or.inr (Or.inr (Or.inr (Or.inr (Or.inr (Or.inr (Or.inr (Or.inr (Or.inr (Or.inr (Or.inr (Or.inr (Or.inr (Or.inr (rfl))))))))))))))) eg2)
  rcases gb_ite_e h with h | h
  · obtain ⟨r5, er5, h⟩ := gb_bd_e h
    have Fr5 := gb_Fr.tr Fg2 (gb_Fr.up (w_X11_readExpression er5) (fun _ _ hw => hw.elim (fun h0 => Or.inl (h0)) (fun h0 => h0.elim (fun h1 => Or.inr (Or.inl (h1))) (fun h1 => h1.elim (fun h2 => Or.inr (Or.inr (Or.inl (h2)))) (fun h2 => h2.elim (fun h3 => Or.inr (Or.inr (Or.inr (Or.inl (h3))))) (fun h3 => h3.elim (fun h4 => Or.inr (Or.inr (Or.inr (Or.inr (Or.inl (h4)))))) (fun h4 => h4.elim (fun h5 => Or.inr (Or.inr (Or.inr (Or.inr (Or.inr (Or.inl (h5))))))) (fun h5 => h5.elim (fun h6 => Or.inr (Or.inr (Or.inr (Or.inr (Or.inr (Or.inr (Or.inl (h6)))))))) (fun h6 => h6.elim (fun h7 => Or.inr (Or.inr (Or.inr (Or.inr (Or.inr (Or.inr (Or.inr (Or.inl (h7))))))))) (fun h7 => h7.elim (fun h8 => Or.inr (Or.inr (Or.inr (Or.inr (Or.inr (Or.inr (Or.inr (Or.inr (Or.inl (h8)))))))))) (fun h8 => h8.elim (fun h9 => Or.inr (Or.inr (Or.inr (Or.inr (Or.inr (Or.inr (Or.inr (Or.inr (Or.inr (Or.inl (h9))))))))))) (fun h9 => h9.elim (fun h10 => Or.inr (Or.inr (Or.inr (Or.inr (Or.inr (Or.inr (Or.inr (Or.inr (Or.inr (Or.inr (Or.inl (h10)))))))))))) (fun h10 => h10.elim (fun h11 => Or.inr (Or.inr (Or.inr (Or.inr (Or.inr (Or.inr (Or.inr (Or.inr (Or.inr (Or.inr (Or.inr (Or.inl (h11))))))))))))) (fun h11 => h11.elim (fun h12 => Or.inr (Or.inr (Or.inr (Or.inr (Or.inr (Or.inr (Or.inr (Or.inr (Or.inr (Or.inr (Or.inr (Or.inr (Or.inl (h12)))))))))))))) (fun h12 => Or.inr (Or.inr (Or.inr (Or.inr (Or.inr (Or.inr (Or.inr (Or.inr (Or.inr (Or.inr (Or.inr (Or.inr (Or.inr (Or.inl (h12)))))))))))))))))))))))))))))
    exact gb_Fr.tr Fr5 (w_X11_readSum_22 h)
  · exact gb_Fr.tr Fg2 (w_X11_readSum_22 h)
set_option maxRecDepth 100000 in
set_option maxHeartbeats 4000000 in
theorem w_X11_readOrder_241 {sh : List gb_Sh} {y2 : Int32} {g : gb_G}  {o : (gb_G)} (h : f_X11_readOrder_241 sh g y2 = some o) : gb_Fr (fun c k => (c = 77 ∧ k = 14) ∨ (c = 77 ∧ k = 15) ∨ (c = 77 ∧ k = 16) ∨ (c = 77 ∧ k = 17) ∨ (c = 77 ∧ k = 18) ∨ (c = 77 ∧ k = 19) ∨ (c = 77 ∧ k = 21) ∨ (c = 77 ∧ k = 23) ∨ (c = 77 ∧ k = 26) ∨ (c = 77 ∧ k = 29) ∨ (c = 77 ∧ k = 30) ∨ c = 88 ∨ c = 89 ∨ c = 90 ∨ c = 91 ∨ c = 103) g o := by
  unfold f_X11_readOrder_241 at h
  have Fg : gb_Fr (fun c k => (c = 77 ∧ k = 14) ∨ (c = 77 ∧ k = 15) ∨ (c = 77 ∧ k = 16) ∨ (c = 77 ∧ k = 17) ∨ (c = 77 ∧ k = 18) ∨ (c = 77 ∧ k = 19) ∨ (c = 77 ∧ k = 21) ∨ (c = 77 ∧ k = 23) ∨ (c = 77 ∧ k = 26) ∨ (c = 77 ∧ k = 29) ∨ (c = 77 ∧ k = 30) ∨ c = 88 ∨ c = 89 ∨ c = 90 ∨ c = 91 ∨ c = 103) g g := gb_Fr.rf
  obtain ⟨-, h⟩ := gb_ck_e h
  obtain ⟨g11, eg11, h⟩ := gb_let_x h
  have Fg11 := gb_Fr.tr Fg (gb_Fr.pi (Or.inr (Or.inr (Or.inr (Or.inr (Or.inr (Or.inr (Or.inr (Or.inr (Or.inr (Or.inr (Or.inr (Or.inr (Or.inr (Or.inr (Or.inr (rfl)))))))))))))))) eg11)
  cases h
  exact Fg11
set_option maxRecDepth 100000 in
set_option maxHeartbeats 4000000 in
theorem w_X11_readOrder_203 {sh : List gb_Sh} {y2 : Int32} {g : gb_G}  {o : (gb_G)} (h : f_X11_readOrder_203 sh g y2 = some o) : gb_Fr (fun c k => (c = 77 ∧ k = 14) ∨ (c = 77 ∧ k = 15) ∨ (c = 77 ∧ k = 16) ∨ (c = 77 ∧ k = 17) ∨ (c = 77 ∧ k = 18) ∨ (c = 77 ∧ k = 19) ∨ (c = 77 ∧ k = 21) ∨ (c = 77 ∧ k = 23) ∨ (c = 77 ∧ k = 26) ∨ (c = 77 ∧ k = 29) ∨ (c = 77 ∧ k = 30) ∨ c = 88 ∨ c = 89 ∨ c = 90 ∨ c = 91 ∨ c = 103) g o := by
  unfold f_X11_readOrder_203 at h
  have Fg : gb_Fr (fun c k => (c = 77 ∧ k = 14) ∨ (c = 77 ∧ k = 15) ∨ (c = 77 ∧ k = 16) ∨ (c = 77 ∧ k = 17) ∨ (c = 77 ∧ k = 18) ∨ (c = 77 ∧ k = 19) ∨ (c = 77 ∧ k = 21) ∨ (c = 77 ∧ k = 23) ∨ (c = 77 ∧ k = 26) ∨ (c = 77 ∧ k = 29) ∨ (c = 77 ∧ k = 30) ∨ c = 88 ∨ c = 89 ∨ c = 90 ∨ c = 91 ∨ c = 103) g g := gb_Fr.rf
  obtain ⟨-, h⟩ := gb_ck_e h
  obtain ⟨g9, eg9, h⟩ := gb_let_x h
  have Fg9 := gb_Fr.tr Fg (gb_Fr.pi (Or.inr (Or.inr (Or.inr (Or.inr (Or.inr (Or.inr (Or.inr (Or.inr (Or.inr (Or.inr (Or.inr (Or.inr (Or.inr (Or.inr (Or.inr (rfl)))))))))))))))) eg9)
  rcases gb_ite_e h with h | h
  · obtain ⟨r12, er12, h⟩ := gb_bd_e h
    have Fr12 := gb_Fr.tr Fg9 (gb_Fr.up (w_X11_isWord er12) (fun _ _ hw => hw.elim))
    rcases gb_ite_e h with h | h
    · exact gb_Fr.tr Fr12 (w_X11_readOrder_241 h)
    · obtain ⟨r14, er14, h⟩ := gb_bd_e h
      have Fr14 := gb_Fr.tr Fr12 (gb_Fr.up (w_X11_next er14) (fun _ _ hw => hw.elim (fun h0 => Or.inl (h0)) (fun h0 => h0.elim (fun h1 => Or.inr (Or.inl (h1))) (fun h1 => h1.elim (fun h2 => Or.inr (Or.inr (Or.inl (h2)))) (fun h2 => Or.inr (Or.inr (Or.inr (Or.inl (h2)))))))))
      obtain ⟨r16, er16, h⟩ := gb_bd_e h
      have Fr16 := gb_Fr.tr Fr14 (gb_Fr.up (w_X11_readExpression er16) (fun _ _ hw => hw.elim (fun h0 => Or.inl (h0)) (fun h0 => h0.elim (fun h1 => Or.inr (Or.inl (h1))) (fun h1 => h1.elim (fun h2 => Or.inr (Or.inr (Or.inl (h2)))) (fun h2 => h2.elim (fun h3 => Or.inr (Or.inr (Or.inr (Or.inl (h3))))) (fun h3 => h3.elim (fun h4 => Or.inr (Or.inr (Or.inr (Or.inr (Or.inl (h4)))))) (fun h4 => h4.elim (fun h5 => Or.inr (Or.inr (Or.inr (Or.inr (Or.inr (Or.inl (h5))))))) (fun h5 => h5.elim (fun h6 => Or.inr (Or.inr (Or.inr (Or.inr (Or.inr (Or.inr (Or.inr (Or.inl (h6))))))))) (fun h6 => h6.elim (fun h7 => Or.inr (Or.inr (Or.inr (Or.inr (Or.inr (Or.inr (Or.inr (Or.inr (Or.inl (h7)))))))))) (fun h7 => h7.elim (fun h8 => Or.inr (Or.inr (Or.inr (Or.inr (Or.inr (Or.inr (Or.inr (Or.inr (Or.inr (Or.inl (h8))))))))))) (fun h8 => h8.elim (fun h9 => Or.inr (Or.inr (Or.inr (Or.inr (Or.inr (Or.inr (Or.inr (Or.inr (Or.inr (Or.inr (Or.inl (h9)))))))))))) (fun h9 => h9.elim (fun h10 => Or.inr (Or.inr (Or.inr (Or.inr (Or.inr (Or.inr (Or.inr (Or.inr (Or.inr (Or.inr (Or.inr (Or.inl (h10))))))))))))) (fun h10 => h10.elim (fun h11 => Or.inr (Or.inr (Or.inr (Or.inr (Or.inr (Or.inr (Or.inr (Or.inr (Or.inr (Or.inr (Or.inr (Or.inr (Or.inl (h11)))))))))))))) (fun h11 => h11.elim (fun h12 => Or.inr (Or.inr (Or.inr (Or.inr (Or.inr (Or.inr (Or.inr (Or.inr (Or.inr (Or.inr (Or.inr (Or.inr (Or.inr (Or.inl (h12))))))))))))))) (fun h12 => Or.inr (Or.inr (Or.inr (Or.inr (Or.inr (Or.inr (Or.inr (Or.inr (Or.inr (Or.inr (Or.inr (Or.inr (Or.inr (Or.inr (Or.inl (h12))))))))))))))))))))))))))))))
      exact gb_Fr.tr Fr16 (w_X11_readOrder_241 h)
  · exact gb_Fr.tr Fg9 (w_X11_readOrder_241 h)
