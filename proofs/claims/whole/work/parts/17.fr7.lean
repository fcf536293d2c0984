/-! ===== which cells a function may write (on) ===== -/
set_option maxRecDepth 100000 in
set_option maxHeartbeats 4000000 in
theorem w_X11_readOrder_155 {sh : List gb_Sh} {y2 : Int32} {g : gb_G}  {o : (gb_G)} (h : f_X11_readOrder_155 sh g y2 = some o) : gb_Fr (fun c k => (c = 77 ∧ k = 14) ∨ (c = 77 ∧ k = 15) ∨ (c = 77 ∧ k = 16) ∨ (c = 77 ∧ k = 17) ∨ (c = 77 ∧ k = 18) ∨ (c = 77 ∧ k = 19) ∨ (c = 77 ∧ k = 21) ∨ (c = 77 ∧ k = 23) ∨ (c = 77 ∧ k = 26) ∨ (c = 77 ∧ k = 29) ∨ (c = 77 ∧ k = 30) ∨ c = 88 ∨ c = 89 ∨ c = 90 ∨ c = 91 ∨ c = 103) g o := by
  unfold f_X11_readOrder_155 at h
  have Fg : gb_Fr (fun c k => (c = 77 ∧ k = 14) ∨ (c = 77 ∧ k = 15) ∨ (c = 77 ∧ k = 16) ∨ (c = 77 ∧ k = 17) ∨ (c = 77 ∧ k = 18) ∨ (c = 77 ∧ k = 19) ∨ (c = 77 ∧ k = 21) ∨ (c = 77 ∧ k = 23) ∨ (c = 77 ∧ k = 26) ∨ (c = 77 ∧ k = 29) ∨ (c = 77 ∧ k = 30) ∨ c = 88 ∨ c = 89 ∨ c = 90 ∨ c = 91 ∨ c = 103) g g := gb_Fr.rf
  obtain ⟨-, h⟩ := gb_ck_e h
  obtain ⟨g7, eg7, h⟩ := gb_let_x h
  have Fg7 := gb_Fr.tr Fg (gb_Fr.pi (Or.inr (Or.inr (Or.inr (Or.inr (Or.inr (Or.inr (Or.inr (Or.inr (Or.inr (Or.inr (Or.inr (Or.inr (Or.inr (Or.inr (Or.inr (rfl)))))))))))))))) eg7)
  rcases gb_ite_e h with h | h
  · obtain ⟨r18, er18, h⟩ := gb_bd_e h
    have Fr18 := gb_Fr.tr Fg7 (gb_Fr.up (w_X11_isWord er18) (fun _ _ hw => hw.elim))
    rcases gb_ite_e h with h | h
    · exact gb_Fr.tr Fr18 (w_X11_readOrder_203 h)
    · obtain ⟨r20, er20, h⟩ := gb_bd_e h
      have Fr20 := gb_Fr.tr Fr18 (gb_Fr.up (w_X11_next er20) (fun _ _ hw => hw.elim (fun h0 => Or.inl (h0)) (fun h0 => h0.elim (fun h1 => Or.inr (Or.inl (h1))) (fun h1 => h1.elim (fun h2 => Or.inr (Or.inr (Or.inl (h2)))) (fun h2 => Or.inr (Or.inr (Or.inr (Or.inl (h2)))))))))
      obtain ⟨r22, er22, h⟩ := gb_bd_e h
      have Fr22 := gb_Fr.tr Fr20 (gb_Fr.up (w_X11_number er22) (fun _ _ hw => hw.elim (fun h0 => Or.inl (h0)) (fun h0 => h0.elim (fun h1 => Or.inr (Or.inl (h1))) (fun h1 => h1.elim (fun h2 => Or.inr (Or.inr (Or.inl (h2)))) (fun h2 => h2.elim (fun h3 => Or.inr (Or.inr (Or.inr (Or.inl (h3))))) (fun h3 => h3.elim (fun h4 => Or.inr (Or.inr (Or.inr (Or.inr (Or.inl (h4)))))) (fun h4 => Or.inr (Or.inr (Or.inr (Or.inr (Or.inr (Or.inl (h4)))))))))))))
      obtain ⟨-, h⟩ := gb_ck_e h
      obtain ⟨g25, eg25, h⟩ := gb_let_x h
      have Fg25 := gb_Fr.tr Fr22 (gb_Fr.pi (Or.inr (Or.inr (Or.inr (Or.inr (Or.inr (Or.inr (Or.inr (Or.inr (Or.inr (Or.inr (Or.inr (Or.inr (Or.inr (Or.inr (Or.inr (rfl)))))))))))))))) eg25)
      exact gb_Fr.tr Fg25 (w_X11_readOrder_203 h)
  · exact gb_Fr.tr Fg7 (w_X11_readOrder_203 h)
set_option maxRecDepth 100000 in
set_option maxHeartbeats 4000000 in
theorem w_X11_readOrder_148 {sh : List gb_Sh} {K155 : gb_G → Int32 → Option (gb_G)} {y2 : Int32} {g : gb_G} (hK155 : ∀ {a0 : gb_G} {a1 : Int32} {o : (gb_G)}, K155 a0 a1 = some o → gb_Fr (fun c k => (c = 77 ∧ k = 14) ∨ (c = 77 ∧ k = 15) ∨ (c = 77 ∧ k = 16) ∨ (c = 77 ∧ k = 17) ∨ (c = 77 ∧ k = 18) ∨ (c = 77 ∧ k = 19) ∨ (c = 77 ∧ k = 21) ∨ (c = 77 ∧ k = 23) ∨ (c = 77 ∧ k = 26) ∨ (c = 77 ∧ k = 29) ∨ (c = 77 ∧ k = 30) ∨ c = 88 ∨ c = 89 ∨ c = 90 ∨ c = 91 ∨ c = 103) a0 o) {o : (gb_G)} (h : f_X11_readOrder_148 sh K155 g y2 = some o) : gb_Fr (fun c k => (c = 77 ∧ k = 14) ∨ (c = 77 ∧ k = 15) ∨ (c = 77 ∧ k = 16) ∨ (c = 77 ∧ k = 17) ∨ (c = 77 ∧ k = 18) ∨ (c = 77 ∧ k = 19) ∨ (c = 77 ∧ k = 21) ∨ (c = 77 ∧ k = 23) ∨ (c = 77 ∧ k = 26) ∨ (c = 77 ∧ k = 29) ∨ (c = 77 ∧ k = 30) ∨ c = 88 ∨ c = 89 ∨ c = 90 ∨ c = 91 ∨ c = 103) g o := by
  unfold f_X11_readOrder_148 at h
  have Fg : gb_Fr (fun c k => (c = 77 ∧ k = 14) ∨ (c = 77 ∧ k = 15) ∨ (c = 77 ∧ k = 16) ∨ (c = 77 ∧ k = 17) ∨ (c = 77 ∧ k = 18) ∨ (c = 77 ∧ k = 19) ∨ (c = 77 ∧ k = 21) ∨ (c = 77 ∧ k = 23) ∨ (c = 77 ∧ k = 26) ∨ (c = 77 ∧ k = 29) ∨ (c = 77 ∧ k = 30) ∨ c = 88 ∨ c = 89 ∨ c = 90 ∨ c = 91 ∨ c = 103) g g := gb_Fr.rf
  obtain ⟨r26, er26, h⟩ := gb_bd_e h
  have Fr26 := gb_Fr.tr Fg (gb_Fr.up (w_X11_readSum er26) (fun _ _ hw => hw.elim (fun h0 => Or.inl (h0)) (fun h0 => h0.elim (fun h1 => Or.inr (Or.inl (h1))) (fun h1 => h1.elim (fun h2 => Or.inr (Or.inr (Or.inl (h2)))) (fun h2 => h2.elim (fun h3 => Or.inr (Or.inr (Or.inr (Or.inl (h3))))) (fun h3 => h3.elim (fun h4 => Or.inr (Or.inr (Or.inr (Or.inr (Or.inl (h4)))))) (fun h4 => h4.elim (fun h5 => Or.inr (Or.inr (Or.inr (Or.inr (Or.inr (Or.inl (h5))))))) (fun h5 => h5.elim (fun h6 => Or.inr (Or.inr (Or.inr (Or.inr (Or.inr (Or.inr (Or.inr (Or.inl (h6))))))))) (fun h6 => h6.elim (fun h7 => Or.inr (Or.inr (Or.inr (Or.inr (Or.inr (Or.inr (Or.inr (Or.inr (Or.inl (h7)))))))))) (fun h7 => h7.elim (fun h8 => Or.inr (Or.inr (Or.inr (Or.inr (Or.inr (Or.inr (Or.inr (Or.inr (Or.inr (Or.inl (h8))))))))))) (fun h8 => h8.elim (fun h9 => Or.inr (Or.inr (Or.inr (Or.inr (Or.inr (Or.inr (Or.inr (Or.inr (Or.inr (Or.inr (Or.inl (h9)))))))))))) (fun h9 => h9.elim (fun h10 => Or.inr (Or.inr (Or.inr (Or.inr (Or.inr (Or.inr (Or.inr (Or.inr (Or.inr (Or.inr (Or.inr (Or.inl (h10))))))))))))) (fun h10 => h10.elim (fun h11 => Or.inr (Or.inr (Or.inr (Or.inr (Or.inr (Or.inr (Or.inr (Or.inr (Or.inr (Or.inr (Or.inr (Or.inr (Or.inl (h11)))))))))))))) (fun h11 => h11.elim (fun h12 => Or.inr (Or.inr (Or.inr (Or.inr (Or.inr (Or.inr (Or.inr (Or.inr (Or.inr (Or.inr (Or.inr (Or.inr (Or.inr (Or.inl (h12))))))))))))))) (fun h12 => h12.elim (fun h13 => Or.inr (Or.inr (Or.inr (Or.inr (Or.inr (Or.inr (Or.inr (Or.inr (Or.inr (Or.inr (Or.inr (Or.inr (Or.inr (Or.inr (Or.inl (h13)))))))))))))))) (fun h13 => Or.inr (Or.inr (Or.inr (Or.inr (Or.inr (Or.inr (Or.inr (Or.inr (Or.inr (Or.inr (Or.inr (Or.inr (Or.inr (Or.inr (Or.inr (h13)))))))))))))))))))))))))))))))
  exact gb_Fr.tr Fr26 (hK155 h)
set_option maxRecDepth 100000 in
set_option maxHeartbeats 4000000 in
theorem w_X11_readOrder_125 {sh : List gb_Sh} {y1 : Int32} {y2 : Int32} {g : gb_G}  {o : (gb_G)} (h : f_X11_readOrder_125 sh g y1 y2 = some o) : gb_Fr (fun c k => (c = 77 ∧ k = 14) ∨ (c = 77 ∧ k = 15) ∨ (c = 77 ∧ k = 16) ∨ (c = 77 ∧ k = 17) ∨ (c = 77 ∧ k = 18) ∨ (c = 77 ∧ k = 19) ∨ (c = 77 ∧ k = 21) ∨ (c = 77 ∧ k = 23) ∨ (c = 77 ∧ k = 26) ∨ (c = 77 ∧ k = 29) ∨ (c = 77 ∧ k = 30) ∨ c = 88 ∨ c = 89 ∨ c = 90 ∨ c = 91 ∨ c = 103) g o := by
  unfold f_X11_readOrder_125 at h
  have Fg : gb_Fr (fun c k => (c = 77 ∧ k = 14) ∨ (c = 77 ∧ k = 15) ∨ (c = 77 ∧ k = 16) ∨ (c = 77 ∧ k = 17) ∨ (c = 77 ∧ k = 18) ∨ (c = 77 ∧ k = 19) ∨ (c = 77 ∧ k = 21) ∨ (c = 77 ∧ k = 23) ∨ (c = 77 ∧ k = 26) ∨ (c = 77 ∧ k = 29) ∨ (c = 77 ∧ k = 30) ∨ c = 88 ∨ c = 89 ∨ c = 90 ∨ c = 91 ∨ c = 103) g g := gb_Fr.rf
  rcases gb_ite_e h with h | h
  · rcases gb_ite_e h with h | h
    · obtain ⟨r28, er28, h⟩ := gb_bd_e h
      have Fr28 := gb_Fr.tr Fg (gb_Fr.up (w_X11_isWord er28) (fun _ _ hw => hw.elim))
      obtain ⟨r30, er30, h⟩ := gb_bd_e h
      have Fr30 := gb_Fr.tr Fr28 (gb_Fr.up (w_X11_must er30) (fun _ _ hw => hw.elim (fun h0 => Or.inl (h0)) (fun h0 => h0.elim (fun h1 => Or.inr (Or.inl (h1))) (fun h1 => h1.elim (fun h2 => Or.inr (Or.inr (Or.inl (h2)))) (fun h2 => h2.elim (fun h3 => Or.inr (Or.inr (Or.inr (Or.inl (h3))))) (fun h3 => h3.elim (fun h4 => Or.inr (Or.inr (Or.inr (Or.inr (Or.inl (h4)))))) (fun h4 => Or.inr (Or.inr (Or.inr (Or.inr (Or.inr (Or.inl (h4)))))))))))))
      exact gb_Fr.tr Fr30 (w_X11_readOrder_148 (fun hh => w_X11_readOrder_155 hh) h)
    · exact gb_Fr.tr Fg (w_X11_readOrder_148 (fun hh => w_X11_readOrder_155 hh) h)
  · exact gb_Fr.tr Fg (w_X11_readOrder_155 h)
set_option maxRecDepth 100000 in
set_option maxHeartbeats 4000000 in
theorem w_X11_readOrder_85 {sh : List gb_Sh}  : ∀ (n : Nat) {g : gb_G} {y1 : Int32} {y2 : Int32} {y3 : Int32} {o : (gb_G)} (h : f_X11_readOrder_85 sh n g y1 y2 y3 = some o), gb_Fr (fun c k => (c = 77 ∧ k = 14) ∨ (c = 77 ∧ k = 15) ∨ (c = 77 ∧ k = 16) ∨ (c = 77 ∧ k = 17) ∨ (c = 77 ∧ k = 18) ∨ (c = 77 ∧ k = 19) ∨ (c = 77 ∧ k = 21) ∨ (c = 77 ∧ k = 23) ∨ (c = 77 ∧ k = 26) ∨ (c = 77 ∧ k = 29) ∨ (c = 77 ∧ k = 30) ∨ c = 88 ∨ c = 89 ∨ c = 90 ∨ c = 91 ∨ c = 103) g o := by
  intro n
  induction n with
  | zero => intro g y1 y2 y3 o h; cases h
  | succ n ih =>
    intro g y1 y2 y3 o h
    rw [f_X11_readOrder_85] at h
    have Fg : gb_Fr (fun c k => (c = 77 ∧ k = 14) ∨ (c = 77 ∧ k = 15) ∨ (c = 77 ∧ k = 16) ∨ (c = 77 ∧ k = 17) ∨ (c = 77 ∧ k = 18) ∨ (c = 77 ∧ k = 19) ∨ (c = 77 ∧ k = 21) ∨ (c = 77 ∧ k = 23) ∨ (c = 77 ∧ k = 26) ∨ (c = 77 ∧ k = 29) ∨ (c = 77 ∧ k = 30) ∨ c = 88 ∨ c = 89 ∨ c = 90 ∨ c = 91 ∨ c = 103) g g := gb_Fr.rf
    rcases gb_ite_e h with h | h
    · obtain ⟨-, h⟩ := gb_ck_e h
      obtain ⟨g5, eg5, h⟩ := gb_let_x h
      have Fg5 := gb_Fr.tr Fg (gb_Fr.pi (Or.inr (Or.inr (Or.inr (Or.inr (Or.inr (Or.inr (Or.inr (Or.inr (Or.inr (Or.inr (Or.inr (Or.inr (Or.inr (Or.inr (Or.inr (rfl)))))))))))))))) eg5)
      rcases gb_ite_e h with h | h
      · exact gb_Fr.tr Fg5 (w_X11_readOrder_125 h)
      · obtain ⟨r32, er32, h⟩ := gb_bd_e h
        have Fr32 := gb_Fr.tr Fg5 (gb_Fr.up (w_X11_readSum er32) (fun _ _ hw => hw.elim (fun h0 => Or.inl (h0)) (fun h0 => h0.elim (fun h1 => Or.inr (Or.inl (h1))) (fun h1 => h1.elim (fun h2 => Or.inr (Or.inr (Or.inl (h2)))) (fun h2 => h2.elim (fun h3 => Or.inr (Or.inr (Or.inr (Or.inl (h3))))) (fun h3 => h3.elim (fun h4 => Or.inr (Or.inr (Or.inr (Or.inr (Or.inl (h4)))))) (fun h4 => h4.elim (fun h5 => Or.inr (Or.inr (Or.inr (Or.inr (Or.inr (Or.inl (h5))))))) (fun h5 => h5.elim (fun h6 => Or.inr (Or.inr (Or.inr (Or.inr (Or.inr (Or.inr (Or.inr (Or.inl (h6))))))))) (fun h6 => h6.elim (fun h7 => Or.inr (Or.inr (Or.inr (Or.inr (Or.inr (Or.inr (Or.inr (Or.inr (Or.inl (h7)))))))))) (fun h7 => h7.elim (fun h8 => Or.inr (Or.inr (Or.inr (Or.inr (Or.inr (Or.inr (Or.inr (Or.inr (Or.inr (Or.inl (h8))))))))))) (fun h8 => h8.elim (fun h9 => Or.inr (Or.inr (Or.inr (Or.inr (Or.inr (Or.inr (Or.inr (Or.inr (Or.inr (Or.inr (Or.inl (h9)))))))))))) (fun h9 => h9.elim (fun h10 => Or.inr (Or.inr (Or.inr (Or.inr (Or.inr (Or.inr (Or.inr (Or.inr (Or.inr (Or.inr (Or.inr (Or.inl (h10))))))))))))) (fun h10 => h10.elim (fun h11 => Or.inr (Or.inr (Or.inr (Or.inr (Or.inr (Or.inr (Or.inr (Or.inr (Or.inr (Or.inr (Or.inr (Or.inr (Or.inl (h11)))))))))))))) (fun h11 => h11.elim (fun h12 => Or.inr (Or.inr (Or.inr (Or.inr (Or.inr (Or.inr (Or.inr (Or.inr (Or.inr (Or.inr (Or.inr (Or.inr (Or.inr (Or.inl (h12))))))))))))))) (fun h12 => h12.elim (fun h13 => Or.inr (Or.inr (Or.inr (Or.inr (Or.inr (Or.inr (Or.inr (Or.inr (Or.inr (Or.inr (Or.inr (Or.inr (Or.inr (Or.inr (Or.inl (h13)))))))))))))))) (fun h13 => Or.inr (Or.inr (Or.inr (Or.inr (Or.inr (Or.inr (Or.inr (Or.inr (Or.inr (Or.inr (Or.inr (Or.inr (Or.inr (Or.inr (Or.inr (h13)))))))))))))))))))))))))))))))
        exact gb_Fr.tr Fr32 (w_X11_readOrder_125 h)
    · obtain ⟨-, h⟩ := gb_ck_e h
      obtain ⟨g35, eg35, h⟩ := gb_let_x h
      have Fg35 := gb_Fr.tr Fg (gb_Fr.pi (Or.inr (Or.inr (Or.inr (Or.inr (Or.inr (Or.inr (Or.inr (Or.inr (Or.inr (Or.inr (Or.inr (Or.inr (Or.inr (Or.inr (Or.inr (rfl)))))))))))))))) eg35)
      exact gb_Fr.tr Fg35 (ih h)
set_option maxRecDepth 100000 in
set_option maxHeartbeats 4000000 in
theorem w_X11_readOrder_54 {sh : List gb_Sh} {y1 : Int32} {z0 : Int32} {g : gb_G}  {o : (gb_G)} (h : f_X11_readOrder_54 sh g y1 z0 = some o) : gb_Fr (fun c k => (c = 77 ∧ k = 14) ∨ (c = 77 ∧ k = 15) ∨ (c = 77 ∧ k = 16) ∨ (c = 77 ∧ k = 17) ∨ (c = 77 ∧ k = 18) ∨ (c = 77 ∧ k = 19) ∨ (c = 77 ∧ k = 21) ∨ (c = 77 ∧ k = 23) ∨ (c = 77 ∧ k = 26) ∨ (c = 77 ∧ k = 29) ∨ (c = 77 ∧ k = 30) ∨ c = 88 ∨ c = 89 ∨ c = 90 ∨ c = 91 ∨ c = 103) g o := by
  unfold f_X11_readOrder_54 at h
  have Fg : gb_Fr (fun c k => (c = 77 ∧ k = 14) ∨ (c = 77 ∧ k = 15) ∨ (c = 77 ∧ k = 16) ∨ (c = 77 ∧ k = 17) ∨ (c = 77 ∧ k = 18) ∨ (c = 77 ∧ k = 19) ∨ (c = 77 ∧ k = 21) ∨ (c = 77 ∧ k = 23) ∨ (c = 77 ∧ k = 26) ∨ (c = 77 ∧ k = 29) ∨ (c = 77 ∧ k = 30) ∨ c = 88 ∨ c = 89 ∨ c = 90 ∨ c = 91 ∨ c = 103) g g := gb_Fr.rf
  obtain ⟨r1, er1, h⟩ := gb_bd_e h
  have Fr1 := gb_Fr.tr Fg (gb_Fr.up (w_X11_must er1) (fun _ _ hw => hw.elim (fun h0 => Or.inl (h0)) (fun h0 => h0.elim (fun h1 => Or.inr (Or.inl (h1))) (fun h1 => h1.elim (fun h2 => Or.inr (Or.inr (Or.inl (h2)))) (fun h2 => h2.elim (fun h3 => Or.inr (Or.inr (Or.inr (Or.inl (h3))))) (fun h3 => h3.elim (fun h4 => Or.inr (Or.inr (Or.inr (Or.inr (Or.inl (h4)))))) (fun h4 => Or.inr (Or.inr (Or.inr (Or.inr (Or.inr (Or.inl (h4)))))))))))))
  rcases gb_ite_e h with h | h
  · obtain ⟨g3, eg3, h⟩ := gb_let_x h
    have Fg3 := gb_Fr.tr Fr1 (gb_Fr.pi (Or.inr (Or.inr (Or.inr (Or.inr (Or.inr (Or.inr (Or.inl (⟨rfl, rfl⟩)))))))) eg3)
    exact gb_Fr.tr Fg3 (w_X11_readOrder_85 _ h)
  · cases h
    exact Fr1
set_option maxRecDepth 100000 in
set_option maxHeartbeats 4000000 in
theorem w_X11_readOrder_27 {sh : List gb_Sh} {K4 : gb_G → Int32 → Int32 → Option (gb_G)} {y2 : Int32} {z0 : Int32} {g : gb_G} (hK4 : ∀ {a0 : gb_G} {a1 : Int32} {a2 : Int32} {o : (gb_G)}, K4 a0 a1 a2 = some o → gb_Fr (fun c k => (c = 77 ∧ k = 14) ∨ (c = 77 ∧ k = 15) ∨ (c = 77 ∧ k = 16) ∨ (c = 77 ∧ k = 17) ∨ (c = 77 ∧ k = 18) ∨ (c = 77 ∧ k = 19) ∨ (c = 77 ∧ k = 21) ∨ (c = 77 ∧ k = 23) ∨ (c = 77 ∧ k = 26) ∨ (c = 77 ∧ k = 29) ∨ (c = 77 ∧ k = 30) ∨ c = 88 ∨ c = 89 ∨ c = 90 ∨ c = 91 ∨ c = 103) a0 o) {o : (gb_G)} (h : f_X11_readOrder_27 sh K4 g y2 z0 = some o) : gb_Fr (fun c k => (c = 77 ∧ k = 14) ∨ (c = 77 ∧ k = 15) ∨ (c = 77 ∧ k = 16) ∨ (c = 77 ∧ k = 17) ∨ (c = 77 ∧ k = 18) ∨ (c = 77 ∧ k = 19) ∨ (c = 77 ∧ k = 21) ∨ (c = 77 ∧ k = 23) ∨ (c = 77 ∧ k = 26) ∨ (c = 77 ∧ k = 29) ∨ (c = 77 ∧ k = 30) ∨ c = 88 ∨ c = 89 ∨ c = 90 ∨ c = 91 ∨ c = 103) g o := by
  unfold f_X11_readOrder_27 at h
  have Fg : gb_Fr (fun c k => (c = 77 ∧ k = 14) ∨ (c = 77 ∧ k = 15) ∨ (c = 77 ∧ k = 16) ∨ (c = 77 ∧ k = 17) ∨ (c = 77 ∧ k = 18) ∨ (c = 77 ∧ k = 19) ∨ (c = 77 ∧ k = 21) ∨ (c = 77 ∧ k = 23) ∨ (c = 77 ∧ k = 26) ∨ (c = 77 ∧ k = 29) ∨ (c = 77 ∧ k = 30) ∨ c = 88 ∨ c = 89 ∨ c = 90 ∨ c = 91 ∨ c = 103) g g := gb_Fr.rf
  exact gb_Fr.tr Fg (hK4 h)
set_option maxRecDepth 100000 in
set_option maxHeartbeats 4000000 in
theorem w_X11_readOrder_4 {sh : List gb_Sh}  : ∀ (n : Nat) {g : gb_G} {y1 : Int32} {y2 : Int32} {o : (gb_G)} (h : f_X11_readOrder_4 sh n g y1 y2 = some o), gb_Fr (fun c k => (c = 77 ∧ k = 14) ∨ (c = 77 ∧ k = 15) ∨ (c = 77 ∧ k = 16) ∨ (c = 77 ∧ k = 17) ∨ (c = 77 ∧ k = 18) ∨ (c = 77 ∧ k = 19) ∨ (c = 77 ∧ k = 21) ∨ (c = 77 ∧ k = 23) ∨ (c = 77 ∧ k = 26) ∨ (c = 77 ∧ k = 29) ∨ (c = 77 ∧ k = 30) ∨ c = 88 ∨ c = 89 ∨ c = 90 ∨ c = 91 ∨ c = 103) g o := by
  intro n
  induction n with
  | zero => intro g y1 y2 o h; cases h
  | succ n ih =>
    intro g y1 y2 o h
    rw [f_X11_readOrder_4] at h
    have Fg : gb_Fr (fun c k => (c = 77 ∧ k = 14) ∨ (c = 77 ∧ k = 15) ∨ (c = 77 ∧ k = 16) ∨ (c = 77 ∧ k = 17) ∨ (c = 77 ∧ k = 18) ∨ (c = 77 ∧ k = 19) ∨ (c = 77 ∧ k = 21) ∨ (c = 77 ∧ k = 23) ∨ (c = 77 ∧ k = 26) ∨ (c = 77 ∧ k = 29) ∨ (c = 77 ∧ k = 30) ∨ c = 88 ∨ c = 89 ∨ c = 90 ∨ c = 91 ∨ c = 103) g g := gb_Fr.rf
    rcases gb_ite_e h with h | h
    · rcases gb_ite_e h with h | h
      · exact gb_Fr.tr Fg (w_X11_readOrder_54 h)
      · rcases gb_ite_e h with h | h
        · exact gb_Fr.tr Fg (w_X11_readOrder_54 h)
        · exact gb_Fr.tr Fg (w_X11_readOrder_54 h)
    · obtain ⟨-, h⟩ := gb_ck_e h
      obtain ⟨r37, er37, h⟩ := gb_bd_e h
      have Fr37 := gb_Fr.tr Fg (gb_Fr.up (w_X11_isWord er37) (fun _ _ hw => hw.elim))
      rcases gb_ite_e h with h | h
      · exact gb_Fr.tr Fr37 (w_X11_readOrder_27 (fun hh => ih hh) h)
      · exact gb_Fr.tr Fr37 (w_X11_readOrder_27 (fun hh => ih hh) h)
set_option maxRecDepth 100000 in
set_option maxHeartbeats 4000000 in
theorem w_X11_readOrder {sh : List gb_Sh} {g : gb_G}  {o : (gb_G)} (h : f_X11_readOrder sh g = some o) : gb_Fr (fun c k => (c = 77 ∧ k = 14) ∨ (c = 77 ∧ k = 15) ∨ (c = 77 ∧ k = 16) ∨ (c = 77 ∧ k = 17) ∨ (c = 77 ∧ k = 18) ∨ (c = 77 ∧ k = 19) ∨ (c = 77 ∧ k = 21) ∨ (c = 77 ∧ k = 23) ∨ (c = 77 ∧ k = 26) ∨ (c = 77 ∧ k = 29) ∨ (c = 77 ∧ k = 30) ∨ c = 88 ∨ c = 89 ∨ c = 90 ∨ c = 91 ∨ c = 103) g o := by
  unfold f_X11_readOrder at h
  have Fg : gb_Fr (fun c k => (c = 77 ∧ k = 14) ∨ (c = 77 ∧ k = 15) ∨ (c = 77 ∧ k = 16) ∨ (c = 77 ∧ k = 17) ∨ (c = 77 ∧ k = 18) ∨ (c = 77 ∧ k = 19) ∨ (c = 77 ∧ k = 21) ∨ (c = 77 ∧ k = 23) ∨ (c = 77 ∧ k = 26) ∨ (c = 77 ∧ k = 29) ∨ (c = 77 ∧ k = 30) ∨ c = 88 ∨ c = 89 ∨ c = 90 ∨ c = 91 ∨ c = 103) g g := gb_Fr.rf
  exact gb_Fr.tr Fg (w_X11_readOrder_4 _ h)
set_option maxRecDepth 100000 in
set_option maxHeartbeats 4000000 in
theorem w_X11_sumOf {sh : List gb_Sh} {x1 : Int32} {g : gb_G}  {o : (gb_G × Int32)} (h : f_X11_sumOf sh g x1 = some o) : gb_Fr (fun c k => (c = 77 ∧ k = 20) ∨ (c = 77 ∧ k = 38) ∨ (c = 77 ∧ k = 39) ∨ (c = 77 ∧ k = 52) ∨ c = 97) g o.1 := by
  unfold f_X11_sumOf at h
  have Fg : gb_Fr (fun c k => (c = 77 ∧ k = 20) ∨ (c = 77 ∧ k = 38) ∨ (c = 77 ∧ k = 39) ∨ (c = 77 ∧ k = 52) ∨ c = 97) g g := gb_Fr.rf
  rcases gb_ite_e h with h | h
  · obtain ⟨-, h⟩ := gb_ck_e h
    obtain ⟨-, h⟩ := gb_ck_e h
    rcases gb_ite_e h with h | h
    · cases h
      exact Fg
    · obtain ⟨g3, eg3, h⟩ := gb_let_x h
      have Fg3 := gb_Fr.tr Fg (gb_Fr.pi (Or.inl (⟨rfl, rfl⟩)) eg3)
      obtain ⟨-, h⟩ := gb_ck_e h
      obtain ⟨-, h⟩ := gb_ck_e h
      obtain ⟨r6, er6, h⟩ := gb_bd_e h
      have Fr6 := gb_Fr.tr Fg3 (gb_Fr.up (w_X11_reckonAll er6) (fun _ _ hw => hw.elim (fun h0 => Or.inr (Or.inl (h0))) (fun h0 => h0.elim (fun h1 => Or.inr (Or.inr (Or.inl (h1)))) (fun h1 => Or.inr (Or.inr (Or.inr (Or.inr (h1))))))))
      obtain ⟨g8, eg8, h⟩ := gb_let_x h
      have Fg8 := gb_Fr.tr Fr6 (gb_Fr.pi (Or.inl (⟨rfl, rfl⟩)) eg8)
      obtain ⟨-, h⟩ := gb_bo_e h
      obtain ⟨g9, eg9, h⟩ := gb_let_x h
      have Fg9 := gb_Fr.tr Fg8 (gb_Fr.pi (Or.inr (Or.inr (Or.inr (Or.inl (⟨rfl, rfl⟩))))) eg9)
      cases h
      exact Fg9
  · cases h
    exact Fg
set_option maxRecDepth 100000 in
set_option maxHeartbeats 4000000 in
theorem w_X11_act {sh : List gb_Sh} {x1 : Int32} {x2 : Int32} {x3 : Int32} {g : gb_G}  {o : (gb_G × Int32)} (h : f_X11_act sh g x1 x2 x3 = some o) : gb_Fr (fun c k => (c = 77 ∧ k = 8) ∨ (c = 77 ∧ k = 34) ∨ (c = 77 ∧ k = 38) ∨ (c = 77 ∧ k = 39) ∨ (c = 77 ∧ k = 40) ∨ c = 79 ∨ c = 82 ∨ c = 83 ∨ c = 95 ∨ c = 97) g o.1 := by
  unfold f_X11_act at h
  have Fg : gb_Fr (fun c k => (c = 77 ∧ k = 8) ∨ (c = 77 ∧ k = 34) ∨ (c = 77 ∧ k = 38) ∨ (c = 77 ∧ k = 39) ∨ (c = 77 ∧ k = 40) ∨ c = 79 ∨ c = 82 ∨ c = 83 ∨ c = 95 ∨ c = 97) g g := gb_Fr.rf
  rcases gb_ite_e h with h | h
  · obtain ⟨r2, er2, h⟩ := gb_bd_e h
    have Fr2 := gb_Fr.tr Fg (gb_Fr.up (w_X11_lackNow er2) (fun _ _ hw => hw.elim (fun h0 => Or.inl (h0)) (fun h0 => h0.elim (fun h1 => Or.inr (Or.inr (Or.inr (Or.inr (Or.inr (Or.inl (h1))))))) (fun h1 => h1.elim (fun h2 => Or.inr (Or.inr (Or.inr (Or.inr (Or.inr (Or.inr (Or.inl (h2)))))))) (fun h2 => Or.inr (Or.inr (Or.inr (Or.inr (Or.inr (Or.inr (Or.inr (Or.inl (h2)))))))))))))
    cases h
    exact Fr2
  · rcases gb_ite_e h with h | h
    · obtain ⟨r5, er5, h⟩ := gb_bd_e h
      have Fr5 := gb_Fr.tr Fg (gb_Fr.up (w_X11_findNow er5) (fun _ _ hw => hw.elim (fun h0 => Or.inl (h0)) (fun h0 => h0.elim (fun h1 => Or.inr (Or.inr (Or.inr (Or.inr (Or.inr (Or.inl (h1))))))) (fun h1 => h1.elim (fun h2 => Or.inr (Or.inr (Or.inr (Or.inr (Or.inr (Or.inr (Or.inl (h2)))))))) (fun h2 => Or.inr (Or.inr (Or.inr (Or.inr (Or.inr (Or.inr (Or.inr (Or.inl (h2)))))))))))))
      cases h
      exact Fr5
    · rcases gb_ite_e h with h | h
      · obtain ⟨r8, er8, h⟩ := gb_bd_e h
        have Fr8 := gb_Fr.tr Fg (gb_Fr.up (w_X11_weighNow er8) (fun _ _ hw => hw.elim (fun h0 => Or.inl (h0)) (fun h0 => h0.elim (fun h1 => Or.inr (Or.inr (Or.inr (Or.inr (Or.inr (Or.inl (h1))))))) (fun h1 => h1.elim (fun h2 => Or.inr (Or.inr (Or.inr (Or.inr (Or.inr (Or.inr (Or.inl (h2)))))))) (fun h2 => Or.inr (Or.inr (Or.inr (Or.inr (Or.inr (Or.inr (Or.inr (Or.inl (h2)))))))))))))
        cases h
        exact Fr8
      · obtain ⟨r10, er10, h⟩ := gb_bd_e h
        have Fr10 := gb_Fr.tr Fg (gb_Fr.up (w_X11_passNow er10) (fun _ _ hw => hw.elim (fun h0 => Or.inl (h0)) (fun h0 => h0.elim (fun h1 => Or.inr (Or.inl (h1))) (fun h1 => h1.elim (fun h2 => Or.inr (Or.inr (Or.inl (h2)))) (fun h2 => h2.elim (fun h3 => Or.inr (Or.inr (Or.inr (Or.inl (h3))))) (fun h3 => h3.elim (fun h4 => Or.inr (Or.inr (Or.inr (Or.inr (Or.inl (h4)))))) (fun h4 => h4.elim (fun h5 => Or.inr (Or.inr (Or.inr (Or.inr (Or.inr (Or.inl (h5))))))) (fun h5 => h5.elim (fun h6 => Or.inr (Or.inr (Or.inr (Or.inr (Or.inr (Or.inr (Or.inl (h6)))))))) (fun h6 => h6.elim (fun h7 => Or.inr (Or.inr (Or.inr (Or.inr (Or.inr (Or.inr (Or.inr (Or.inl (h7))))))))) (fun h7 => h7.elim (fun h8 => Or.inr (Or.inr (Or.inr (Or.inr (Or.inr (Or.inr (Or.inr (Or.inr (Or.inl (h8)))))))))) (fun h8 => Or.inr (Or.inr (Or.inr (Or.inr (Or.inr (Or.inr (Or.inr (Or.inr (Or.inr (h8))))))))))))))))))))
        cases h
        exact Fr10
set_option maxRecDepth 100000 in
set_option maxHeartbeats 4000000 in
theorem w_X11_run_171 {sh : List gb_Sh} {z0 : Int32} {g : gb_G}  {o : (gb_G × Int32)} (h : f_X11_run_171 sh g z0 = some o) : gb_Fr (fun c k => (c = 77 ∧ k = 8) ∨ (c = 77 ∧ k = 20) ∨ (c = 77 ∧ k = 34) ∨ (c = 77 ∧ k = 38) ∨ (c = 77 ∧ k = 39) ∨ (c = 77 ∧ k = 40) ∨ (c = 77 ∧ k = 41) ∨ (c = 77 ∧ k = 42) ∨ (c = 77 ∧ k = 49) ∨ (c = 77 ∧ k = 50) ∨ (c = 77 ∧ k = 52) ∨ c = 79 ∨ c = 82 ∨ c = 83 ∨ c = 95 ∨ c = 96 ∨ c = 97) g o.1 := by
  unfold f_X11_run_171 at h
  have Fg : gb_Fr (fun c k => (c = 77 ∧ k = 8) ∨ (c = 77 ∧ k = 20) ∨ (c = 77 ∧ k = 34) ∨ (c = 77 ∧ k = 38) ∨ (c = 77 ∧ k = 39) ∨ (c = 77 ∧ k = 40) ∨ (c = 77 ∧ k = 41) ∨ (c = 77 ∧ k = 42) ∨ (c = 77 ∧ k = 49) ∨ (c = 77 ∧ k = 50) ∨ (c = 77 ∧ k = 52) ∨ c = 79 ∨ c = 82 ∨ c = 83 ∨ c = 95 ∨ c = 96 ∨ c = 97) g g := gb_Fr.rf
  obtain ⟨g21, eg21, h⟩ := gb_let_x h
  have Fg21 := gb_Fr.tr Fg (gb_Fr.pi (Or.inr (Or.inr (Or.inr (Or.inr (Or.inr (Or.inr (Or.inr (Or.inr (Or.inr (Or.inl (⟨rfl, rfl⟩))))))))))) eg21)
  obtain ⟨g22, eg22, h⟩ := gb_let_x h
  have Fg22 := gb_Fr.tr Fg21 (gb_Fr.pi (Or.inr (Or.inr (Or.inr (Or.inr (Or.inr (Or.inr (Or.inr (Or.inr (Or.inl (⟨rfl, rfl⟩)))))))))) eg22)
  cases h
  exact Fg22
set_option maxRecDepth 100000 in
set_option maxHeartbeats 4000000 in
theorem w_X11_run_103 {sh : List gb_Sh} {y1 : Int32} {g : gb_G}  {o : (gb_G × Int32)} (h : f_X11_run_103 sh g y1 = some o) : gb_Fr (fun c k => (c = 77 ∧ k = 8) ∨ (c = 77 ∧ k = 20) ∨ (c = 77 ∧ k = 34) ∨ (c = 77 ∧ k = 38) ∨ (c = 77 ∧ k = 39) ∨ (c = 77 ∧ k = 40) ∨ (c = 77 ∧ k = 41) ∨ (c = 77 ∧ k = 42) ∨ (c = 77 ∧ k = 49) ∨ (c = 77 ∧ k = 50) ∨ (c = 77 ∧ k = 52) ∨ c = 79 ∨ c = 82 ∨ c = 83 ∨ c = 95 ∨ c = 96 ∨ c = 97) g o.1 := by
  unfold f_X11_run_103 at h
  have Fg : gb_Fr (fun c k => (c = 77 ∧ k = 8) ∨ (c = 77 ∧ k = 20) ∨ (c = 77 ∧ k = 34) ∨ (c = 77 ∧ k = 38) ∨ (c = 77 ∧ k = 39) ∨ (c = 77 ∧ k = 40) ∨ (c = 77 ∧ k = 41) ∨ (c = 77 ∧ k = 42) ∨ (c = 77 ∧ k = 49) ∨ (c = 77 ∧ k = 50) ∨ (c = 77 ∧ k = 52) ∨ c = 79 ∨ c = 82 ∨ c = 83 ∨ c = 95 ∨ c = 96 ∨ c = 97) g g := gb_Fr.rf
  obtain ⟨r13, er13, h⟩ := gb_bd_e h
  have Fr13 := gb_Fr.tr Fg (gb_Fr.up (w_X11_sumOf er13) (fun _ _ hw => hw.elim (fun h0 => Or.inr (Or.inl (h0))) (fun h0 => h0.elim (fun h1 => Or.inr (Or.inr (Or.inr (Or.inl (h1))))) (fun h1 => h1.elim (fun h2 => Or.inr (Or.inr (Or.inr (Or.inr (Or.inl (h2)))))) (fun h2 => h2.elim (fun h3 => Or.inr (Or.inr (Or.inr (Or.inr (Or.inr (Or.inr (Or.inr (Or.inr (Or.inr (Or.inr (Or.inl (h3)))))))))))) (fun h3 => Or.inr (Or.inr (Or.inr (Or.inr (Or.inr (Or.inr (Or.inr (Or.inr (Or.inr (Or.inr (Or.inr (Or.inr (Or.inr (Or.inr (Or.inr (Or.inr (h3))))))))))))))))))))))
  obtain ⟨r15, er15, h⟩ := gb_bd_e h
  have Fr15 := gb_Fr.tr Fr13 (gb_Fr.up (w_X11_sumOf er15) (fun _ _ hw => hw.elim (fun h0 => Or.inr (Or.inl (h0))) (fun h0 => h0.elim (fun h1 => Or.inr (Or.inr (Or.inr (Or.inl (h1))))) (fun h1 => h1.elim (fun h2 => Or.inr (Or.inr (Or.inr (Or.inr (Or.inl (h2)))))) (fun h2 => h2.elim (fun h3 => Or.inr (Or.inr (Or.inr (Or.inr (Or.inr (Or.inr (Or.inr (Or.inr (Or.inr (Or.inr (Or.inl (h3)))))))))))) (fun h3 => Or.inr (Or.inr (Or.inr (Or.inr (Or.inr (Or.inr (Or.inr (Or.inr (Or.inr (Or.inr (Or.inr (Or.inr (Or.inr (Or.inr (Or.inr (Or.inr (h3))))))))))))))))))))))
  rcases gb_ite_e h with h | h
  · obtain ⟨-, h⟩ := gb_ck_e h
    obtain ⟨r18, er18, h⟩ := gb_bd_e h
    have Fr18 := gb_Fr.tr Fr15 (gb_Fr.up (w_X11_act er18) (fun _ _ hw => hw.elim (fun h0 => Or.inl (h0)) (fun h0 => h0.elim (fun h1 => Or.inr (Or.inr (Or.inl (h1)))) (fun h1 => h1.elim (fun h2 => Or.inr (Or.inr (Or.inr (Or.inl (h2))))) (fun h2 => h2.elim (fun h3 => Or.inr (Or.inr (Or.inr (Or.inr (Or.inl (h3)))))) (fun h3 => h3.elim (fun h4 => Or.inr (Or.inr (Or.inr (Or.inr (Or.inr (Or.inl (h4))))))) (fun h4 => h4.elim (fun h5 => Or.inr (Or.inr (Or.inr (Or.inr (Or.inr (Or.inr (Or.inr (Or.inr (Or.inr (Or.inr (Or.inr (Or.inl (h5))))))))))))) (fun h5 => h5.elim (fun h6 => Or.inr (Or.inr (Or.inr (Or.inr (Or.inr (Or.inr (Or.inr (Or.inr (Or.inr (Or.inr (Or.inr (Or.inr (Or.inl (h6)))))))))))))) (fun h6 => h6.elim (fun h7 => Or.inr (Or.inr (Or.inr (Or.inr (Or.inr (Or.inr (Or.inr (Or.inr (Or.inr (Or.inr (Or.inr (Or.inr (Or.inr (Or.inl (h7))))))))))))))) (fun h7 => h7.elim (fun h8 => Or.inr (Or.inr (Or.inr (Or.inr (Or.inr (Or.inr (Or.inr (Or.inr (Or.inr (Or.inr (Or.inr (Or.inr (Or.inr (Or.inr (Or.inl (h8)))))))))))))))) (fun h8 => Or.inr (Or.inr (Or.inr (Or.inr (Or.inr (Or.inr (Or.inr (Or.inr (Or.inr (Or.inr (Or.inr (Or.inr (Or.inr (Or.inr (Or.inr (Or.inr (h8)))))))))))))))))))))))))))
    rcases gb_ite_e h with h | h
    · obtain ⟨-, h⟩ := gb_ck_e h
      rcases gb_ite_e h with h | h
      · exact gb_Fr.tr Fr18 (w_X11_run_171 h)
      · exact gb_Fr.tr Fr18 (w_X11_run_171 h)
    · cases h
      exact Fr18
  · cases h
    exact Fr15
set_option maxRecDepth 100000 in
set_option maxHeartbeats 4000000 in
theorem w_X11_run {sh : List gb_Sh} {x1 : Int32} {g : gb_G}  {o : (gb_G × Int32)} (h : f_X11_run sh g x1 = some o) : gb_Fr (fun c k => (c = 77 ∧ k = 8) ∨ (c = 77 ∧ k = 20) ∨ (c = 77 ∧ k = 34) ∨ (c = 77 ∧ k = 38) ∨ (c = 77 ∧ k = 39) ∨ (c = 77 ∧ k = 40) ∨ (c = 77 ∧ k = 41) ∨ (c = 77 ∧ k = 42) ∨ (c = 77 ∧ k = 49) ∨ (c = 77 ∧ k = 50) ∨ (c = 77 ∧ k = 52) ∨ c = 79 ∨ c = 82 ∨ c = 83 ∨ c = 95 ∨ c = 96 ∨ c = 97) g o.1 := by
  unfold f_X11_run at h
  have Fg : gb_Fr (fun c k => (c = 77 ∧ k = 8) ∨ (c = 77 ∧ k = 20) ∨ (c = 77 ∧ k = 34) ∨ (c = 77 ∧ k = 38) ∨ (c = 77 ∧ k = 39) ∨ (c = 77 ∧ k = 40) ∨ (c = 77 ∧ k = 41) ∨ (c = 77 ∧ k = 42) ∨ (c = 77 ∧ k = 49) ∨ (c = 77 ∧ k = 50) ∨ (c = 77 ∧ k = 52) ∨ c = 79 ∨ c = 82 ∨ c = 83 ∨ c = 95 ∨ c = 96 ∨ c = 97) g g := gb_Fr.rf
  obtain ⟨g1, eg1, h⟩ := gb_let_x h
  have Fg1 := gb_Fr.tr Fg (gb_Fr.pj (Or.inr (Or.inr (Or.inr (Or.inr (Or.inr (Or.inr (Or.inr (Or.inr (Or.inr (Or.inr (Or.inr (Or.inr (Or.inr (Or.inr (Or.inr (Or.inl (rfl))))))))))))))))) eg1)
  obtain ⟨g2, eg2, h⟩ := gb_let_x h
  have Fg2 := gb_Fr.tr Fg1 (gb_Fr.pj (Or.inr (Or.inr (Or.inr (Or.inr (Or.inr (Or.inr (Or.inr (Or.inr (Or.inr (Or.inr (Or.inr (Or.inr (Or.inr (Or.inr (Or.inr (Or.inl (rfl))))))))))))))))) eg2)
  obtain ⟨g3, eg3, h⟩ := gb_let_x h
  have Fg3 := gb_Fr.tr Fg2 (gb_Fr.pj (Or.inr (Or.inr (Or.inr (Or.inr (Or.inr (Or.inr (Or.inr (Or.inr (Or.inr (Or.inr (Or.inr (Or.inr (Or.inr (Or.inr (Or.inr (Or.inl (rfl))))))))))))))))) eg3)
  obtain ⟨r4, er4, h⟩ := gb_bd_e h
  have Fr4 := gb_Fr.tr Fg3 (gb_Fr.up (w_X11_pensionNow er4) (fun _ _ hw => hw.elim (fun h0 => Or.inr (Or.inr (Or.inl (h0)))) (fun h0 => h0.elim (fun h1 => Or.inr (Or.inr (Or.inr (Or.inl (h1))))) (fun h1 => h1.elim (fun h2 => Or.inr (Or.inr (Or.inr (Or.inr (Or.inl (h2)))))) (fun h2 => h2.elim (fun h3 => Or.inr (Or.inr (Or.inr (Or.inr (Or.inr (Or.inl (h3))))))) (fun h3 => h3.elim (fun h4 => Or.inr (Or.inr (Or.inr (Or.inr (Or.inr (Or.inr (Or.inl (h4)))))))) (fun h4 => h4.elim (fun h5 => Or.inr (Or.inr (Or.inr (Or.inr (Or.inr (Or.inr (Or.inr (Or.inl (h5))))))))) (fun h5 => h5.elim (fun h6 => Or.inr (Or.inr (Or.inr (Or.inr (Or.inr (Or.inr (Or.inr (Or.inr (Or.inr (Or.inr (Or.inr (Or.inr (Or.inr (Or.inr (Or.inl (h6)))))))))))))))) (fun h6 => Or.inr (Or.inr (Or.inr (Or.inr (Or.inr (Or.inr (Or.inr (Or.inr (Or.inr (Or.inr (Or.inr (Or.inr (Or.inr (Or.inr (Or.inr (Or.inr (h6)))))))))))))))))))))))))
  obtain ⟨g6, eg6, h⟩ := gb_let_x h
  have Fg6 := gb_Fr.tr Fr4 (gb_Fr.pj (Or.inr (Or.inr (Or.inr (Or.inr (Or.inr (Or.inr (Or.inr (Or.inr (Or.inr (Or.inr (Or.inr (Or.inr (Or.inr (Or.inr (Or.inr (Or.inl (rfl))))))))))))))))) eg6)
  obtain ⟨r7, er7, h⟩ := gb_bd_e h
  have Fr7 := gb_Fr.tr Fg6 (gb_Fr.up (w_X11_lackingOnes er7) (fun _ _ hw => hw.elim))
  obtain ⟨g9, eg9, h⟩ := gb_let_x h
  have Fg9 := gb_Fr.tr Fr7 (gb_Fr.pj (Or.inr (Or.inr (Or.inr (Or.inr (Or.inr (Or.inr (Or.inr (Or.inr (Or.inr (Or.inr (Or.inr (Or.inr (Or.inr (Or.inr (Or.inr (Or.inl (rfl))))))))))))))))) eg9)
  obtain ⟨g10, eg10, h⟩ := gb_let_x h
  have Fg10 := gb_Fr.tr Fg9 (gb_Fr.pi (Or.inr (Or.inr (Or.inr (Or.inr (Or.inr (Or.inr (Or.inr (Or.inr (Or.inr (Or.inr (Or.inl (⟨rfl, rfl⟩)))))))))))) eg10)
  obtain ⟨-, h⟩ := gb_ck_e h
  obtain ⟨-, h⟩ := gb_ck_e h
  rcases gb_ite_e h with h | h
  · exact gb_Fr.tr Fg10 (w_X11_run_103 h)
  · obtain ⟨r23, er23, h⟩ := gb_bd_e h
    have Fr23 := gb_Fr.tr Fg10 (gb_Fr.up (w_X11_sumOf er23) (fun _ _ hw => hw.elim (fun h0 => Or.inr (Or.inl (h0))) (fun h0 => h0.elim (fun h1 => Or.inr (Or.inr (Or.inr (Or.inl (h1))))) (fun h1 => h1.elim (fun h2 => Or.inr (Or.inr (Or.inr (Or.inr (Or.inl (h2)))))) (fun h2 => h2.elim (fun h3 => Or.inr (Or.inr (Or.inr (Or.inr (Or.inr (Or.inr (Or.inr (Or.inr (Or.inr (Or.inr (Or.inl (h3)))))))))))) (fun h3 => Or.inr (Or.inr (Or.inr (Or.inr (Or.inr (Or.inr (Or.inr (Or.inr (Or.inr (Or.inr (Or.inr (Or.inr (Or.inr (Or.inr (Or.inr (Or.inr (h3))))))))))))))))))))))
    rcases gb_ite_e h with h | h
    · rcases gb_ite_e h with h | h
      · cases h
        exact Fr23
      · exact gb_Fr.tr Fr23 (w_X11_run_103 h)
    · cases h
      exact Fr23
set_option maxRecDepth 100000 in
set_option maxHeartbeats 4000000 in
theorem w_X11_giveBack_35 {sh : List gb_Sh}  : ∀ (n : Nat) {g : gb_G} {y1 : Int32} {y2 : Int32} {o : (gb_G)} (h : f_X11_giveBack_35 sh n g y1 y2 = some o), gb_Fr (fun c k => (c = 77 ∧ k = 8) ∨ c = 79 ∨ c = 82 ∨ c = 83) g o := by
  intro n
  induction n with
  | zero => intro g y1 y2 o h; cases h
  | succ n ih =>
    intro g y1 y2 o h
    rw [f_X11_giveBack_35] at h
    have Fg : gb_Fr (fun c k => (c = 77 ∧ k = 8) ∨ c = 79 ∨ c = 82 ∨ c = 83) g g := gb_Fr.rf
    rcases gb_ite_e h with h | h
    · obtain ⟨g3, eg3, h⟩ := gb_let_x h
      have Fg3 := gb_Fr.tr Fg (gb_Fr.pi (Or.inl (⟨rfl, rfl⟩)) eg3)
      cases h
      exact Fg3
    · obtain ⟨-, h⟩ := gb_ck_e h
      obtain ⟨-, h⟩ := gb_ck_e h
      obtain ⟨g6, eg6, h⟩ := gb_let_x h
      have Fg6 := gb_Fr.tr Fg (gb_Fr.pi (Or.inr (Or.inr (Or.inr (rfl)))) eg6)
      exact gb_Fr.tr Fg6 (ih h)
set_option maxRecDepth 100000 in
set_option maxHeartbeats 4000000 in
theorem w_X11_giveBack_8 {sh : List gb_Sh}  : ∀ (n : Nat) {g : gb_G} {y1 : Int32} {y2 : Int32} {o : (gb_G)} (h : f_X11_giveBack_8 sh n g y1 y2 = some o), gb_Fr (fun c k => (c = 77 ∧ k = 8) ∨ c = 79 ∨ c = 82 ∨ c = 83) g o := by
  intro n
  induction n with
  | zero => intro g y1 y2 o h; cases h
  | succ n ih =>
    intro g y1 y2 o h
    rw [f_X11_giveBack_8] at h
    have Fg : gb_Fr (fun c k => (c = 77 ∧ k = 8) ∨ c = 79 ∨ c = 82 ∨ c = 83) g g := gb_Fr.rf
    rcases gb_ite_e h with h | h
    · exact gb_Fr.tr Fg (w_X11_giveBack_35 _ h)
    · obtain ⟨-, h⟩ := gb_ck_e h
      obtain ⟨-, h⟩ := gb_ck_e h
      obtain ⟨g9, eg9, h⟩ := gb_let_x h
      have Fg9 := gb_Fr.tr Fg (gb_Fr.pi (Or.inr (Or.inr (Or.inl (rfl)))) eg9)
      exact gb_Fr.tr Fg9 (ih h)
set_option maxRecDepth 100000 in
set_option maxHeartbeats 4000000 in
theorem w_X11_giveBack {sh : List gb_Sh} {x1 : Int32} {g : gb_G}  {o : (gb_G)} (h : f_X11_giveBack sh g x1 = some o) : gb_Fr (fun c k => (c = 77 ∧ k = 8) ∨ c = 79 ∨ c = 82 ∨ c = 83) g o := by
  unfold f_X11_giveBack at h
  have Fg : gb_Fr (fun c k => (c = 77 ∧ k = 8) ∨ c = 79 ∨ c = 82 ∨ c = 83) g g := gb_Fr.rf
  obtain ⟨r1, er1, h⟩ := gb_bd_e h
  have Fr1 := gb_Fr.tr Fg (gb_Fr.up (w_X11_putBack er1) (fun _ _ hw => Or.inr (Or.inl (hw))))
  exact gb_Fr.tr Fr1 (w_X11_giveBack_8 _ h)
set_option maxRecDepth 100000 in
set_option maxHeartbeats 4000000 in
theorem w_X11_orders_150 {sh : List gb_Sh} {K140 : gb_G → Int32 → Int32 → Option (gb_G × Int32)} (hK140 : ∀ {a0 : gb_G} {a1 : Int32} {a2 : Int32} {o : (gb_G × Int32)}, K140 a0 a1 a2 = some o → gb_Fr (fun c k => (c = 77 ∧ k = 0) ∨ (c = 77 ∧ k = 1) ∨ (c = 77 ∧ k = 8) ∨ (c = 77 ∧ k = 13) ∨ (c = 77 ∧ k = 14) ∨ (c = 77 ∧ k = 15) ∨ (c = 77 ∧ k = 16) ∨ (c = 77 ∧ k = 17) ∨ (c = 77 ∧ k = 18) ∨ (c = 77 ∧ k = 19) ∨ (c = 77 ∧ k = 20) ∨ (c = 77 ∧ k = 21) ∨ (c = 77 ∧ k = 23) ∨ (c = 77 ∧ k = 26) ∨ (c = 77 ∧ k = 29) ∨ (c = 77 ∧ k = 30) ∨ (c = 77 ∧ k = 34) ∨ (c = 77 ∧ k = 38) ∨ (c = 77 ∧ k = 39) ∨ (c = 77 ∧ k = 40) ∨ (c = 77 ∧ k = 41) ∨ (c = 77 ∧ k = 42) ∨ (c = 77 ∧ k = 49) ∨ (c = 77 ∧ k = 50) ∨ (c = 77 ∧ k = 51) ∨ (c = 77 ∧ k = 52) ∨ c = 78 ∨ c = 79 ∨ c = 82 ∨ c = 83 ∨ c = 84 ∨ c = 85 ∨ c = 88 ∨ c = 89 ∨ c = 90 ∨ c = 91 ∨ c = 95 ∨ c = 96 ∨ c = 97 ∨ c = 103) a0 o.1) : ∀ (n : Nat) {g : gb_G} {y1 : Int32} {y2 : Int32} {y3 : Int32} {o : (gb_G × Int32)} (h : f_X11_orders_150 sh K140 n g y1 y2 y3 = some o), gb_Fr (fun c k => (c = 77 ∧ k = 0) ∨ (c = 77 ∧ k = 1) ∨ (c = 77 ∧ k = 8) ∨ (c = 77 ∧ k = 13) ∨ (c = 77 ∧ k = 14) ∨ (c = 77 ∧ k = 15) ∨ (c = 77 ∧ k = 16) ∨ (c = 77 ∧ k = 17) ∨ (c = 77 ∧ k = 18) ∨ (c = 77 ∧ k = 19) ∨ (c = 77 ∧ k = 20) ∨ (c = 77 ∧ k = 21) ∨ (c = 77 ∧ k = 23) ∨ (c = 77 ∧ k = 26) ∨ (c = 77 ∧ k = 29) ∨ (c = 77 ∧ k = 30) ∨ (c = 77 ∧ k = 34) ∨ (c = 77 ∧ k = 38) ∨ (c = 77 ∧ k = 39) ∨ (c = 77 ∧ k = 40) ∨ (c = 77 ∧ k = 41) ∨ (c = 77 ∧ k = 42) ∨ (c = 77 ∧ k = 49) ∨ (c = 77 ∧ k = 50) ∨ (c = 77 ∧ k = 51) ∨ (c = 77 ∧ k = 52) ∨ c = 78 ∨ c = 79 ∨ c = 82 ∨ c = 83 ∨ c = 84 ∨ c = 85 ∨ c = 88 ∨ c = 89 ∨ c = 90 ∨ c = 91 ∨ c = 95 ∨ c = 96 ∨ c = 97 ∨ c = 103) g o.1 := by
  intro n
  induction n with
  | zero => intro g y1 y2 y3 o h; cases h
  | succ n ih =>
    intro g y1 y2 y3 o h
    rw [f_X11_orders_150] at h
    have Fg : gb_Fr (fun c k => (c = 77 ∧ k = 0) ∨ (c = 77 ∧ k = 1) ∨ (c = 77 ∧ k = 8) ∨ (c = 77 ∧ k = 13) ∨ (c = 77 ∧ k = 14) ∨ (c = 77 ∧ k = 15) ∨ (c = 77 ∧ k = 16) ∨ (c = 77 ∧ k = 17) ∨ (c = 77 ∧ k = 18) ∨ (c = 77 ∧ k = 19) ∨ (c = 77 ∧ k = 20) ∨ (c = 77 ∧ k = 21) ∨ (c = 77 ∧ k = 23) ∨ (c = 77 ∧ k = 26) ∨ (c = 77 ∧ k = 29) ∨ (c = 77 ∧ k = 30) ∨ (c = 77 ∧ k = 34) ∨ (c = 77 ∧ k = 38) ∨ (c = 77 ∧ k = 39) ∨ (c = 77 ∧ k = 40) ∨ (c = 77 ∧ k = 41) ∨ (c = 77 ∧ k = 42) ∨ (c = 77 ∧ k = 49) ∨ (c = 77 ∧ k = 50) ∨ (c = 77 ∧ k = 51) ∨ (c = 77 ∧ k = 52) ∨ c = 78 ∨ c = 79 ∨ c = 82 ∨ c = 83 ∨ c = 84 ∨ c = 85 ∨ c = 88 ∨ c = 89 ∨ c = 90 ∨ c = 91 ∨ c = 95 ∨ c = 96 ∨ c = 97 ∨ c = 103) g g := gb_Fr.rf
    obtain ⟨-, h⟩ := gb_ck_e h
    rcases gb_ite_e h with h | h
    · exact gb_Fr.tr Fg (hK140 h)
    · obtain ⟨r16, er16, h⟩ := gb_bd_e h
      have Fr16 := gb_Fr.tr Fg (gb_Fr.up (w_X11_run er16) (fun _ _ hw => hw.elim (fun h0 => Or.inr (Or.inr (Or.inl (h0)))) (fun h0 => h0.elim (fun h1 => Or.inr (Or.inr (Or.inr (Or.inr (Or.inr (Or.inr (Or.inr (Or.inr (Or.inr (Or.inr (Or.inl (h1)))))))))))) (fun h1 => h1.elim (fun h2 => Or.inr (Or.inr (Or.inr (Or.inr (Or.inr (Or.inr (Or.inr (Or.inr (Or.inr (Or.inr (Or.inr (Or.inr (Or.inr (Or.inr (Or.inr (Or.inr (Or.inl (h2)))))))))))))))))) (fun h2 => h2.elim (fun h3 => Or.inr (Or.inr (Or.inr (Or.inr (Or.inr (Or.inr (Or.inr (Or.inr (Or.inr (Or.inr (Or.inr (Or.inr (Or.inr (Or.inr (Or.inr (Or.inr (Or.inr (Or.inl (h3))))))))))))))))))) (fun h3 => h3.elim (fun h4 => Or.inr (Or.inr (Or.inr (Or.inr (Or.inr (Or.inr (Or.inr (Or.inr (Or.inr (Or.inr (Or.inr (Or.inr (Or.inr (Or.inr (Or.inr (Or.inr (Or.inr (Or.inr (Or.inl (h4)))))))))))))))))))) (fun h4 => h4.elim (fun h5 => Or.inr (Or.inr (Or.inr (Or.inr (Or.inr (Or.inr (Or.inr (Or.inr (Or.inr (Or.inr (Or.inr (Or.inr (Or.inr (Or.inr (Or.inr (Or.inr (Or.inr (Or.inr (Or.inr (Or.inl (h5))))))))))))))))))))) (fun h5 => h5.elim (fun h6 => Or.inr (Or.inr (Or.inr (Or.inr (Or.inr (Or.inr (Or.inr (Or.inr (Or.inr (Or.inr (Or.inr (Or.inr (Or.inr (Or.inr (Or.inr (Or.inr (Or.inr (Or.inr (Or.inr (Or.inr (Or.inl (h6)))))))))))))))))))))) (fun h6 => h6.elim (fun h7 => Or.inr (Or.inr (Or.inr (Or.inr (Or.inr (Or.inr (Or.inr (Or.inr (Or.inr (Or.inr (Or.inr (Or.inr (Or.inr (Or.inr (Or.inr (Or.inr (Or.inr (Or.inr (Or.inr (Or.inr (Or.inr (Or.inl (h7))))))))))))))))))))))) (fun h7 => h7.elim (fun h8 => Or.inr (Or.inr (Or.inr (Or.inr (Or.inr (Or.inr (Or.inr (Or.inr (Or.inr (Or.inr (Or.inr (Or.inr (Or.inr (Or.inr (Or.inr (Or.inr (Or.inr (Or.inr (Or.inr (Or.inr (Or.inr (Or.inr (Or.inl (h8)))))))))))))))))))))))) (fun h8 => h8.elim (fun h9 => Or.inr (Or.inr (Or.inr (Or.inr (Or.inr (Or.inr (Or.inr (Or.inr (Or.inr (Or.inr (Or.inr (Or.inr (Or.inr (Or.inr (Or.inr (Or.inr (Or.inr (Or.inr (Or.inr (Or.inr (Or.inr (Or.inr (Or.inr (Or.inl (h9))))))))))))))))))))))))) (fun h9 => h9.elim (fun h10 => Or.inr (Or.inr (Or.inr (Or.inr (Or.inr (Or.inr (Or.inr (Or.inr (Or.inr (Or.inr (Or.inr (Or.inr (Or.inr (Or.inr (Or.inr (Or.inr (Or.inr (Or.inr (Or.inr (Or.inr (Or.inr (Or.inr (Or.inr (Or.inr (Or.inr (Or.inl (h10))))))))))))))))))))))))))) (fun h10 => h10.elim (fun h11 => Or.inr (Or.inr (Or.inr (Or.inr (Or.inr (Or.inr (Or.inr (Or.inr (Or.inr (Or.inr (Or.inr (Or.inr (Or.inr (Or.inr (Or.inr (Or.inr (Or.inr (Or.inr (Or.inr (Or.inr (Or.inr (Or.inr (Or.inr (Or.inr (Or.inr (Or.inr (Or.inr (Or.inl (h11))))))))))))))))))))))))))))) (fun h11 => h11.elim (fun h12 => Or.inr (Or.inr (Or.inr (Or.inr (Or.inr (Or.inr (Or.inr (Or.inr (Or.inr (Or.inr (Or.inr (Or.inr (Or.inr (Or.inr (Or.inr (Or.inr (Or.inr (Or.inr (Or.inr (Or.inr (Or.inr (Or.inr (Or.inr (Or.inr (Or.inr (Or.inr (Or.inr (Or.inr (Or.inl (h12)))))))))))))))))))))))))))))) (fun h12 => h12.elim (fun h13 => Or.inr (Or.inr (Or.inr (Or.inr (Or.inr (Or.inr (Or.inr (Or.inr (Or.inr (Or.inr (Or.inr (Or.inr (Or.inr (Or.inr (Or.inr (Or.inr (Or.inr (Or.inr (Or.inr (Or.inr (Or.inr (Or.inr (Or.inr (Or.inr (Or.inr (Or.inr (Or.inr (Or.inr (Or.inr (Or.inl (h13))))))))))))))))))))))))))))))) (fun h13 => h13.elim (fun h14 => Or.inr (Or.inr (Or.inr (Or.inr (Or.inr (Or.inr (Or.inr (Or.inr (Or.inr (Or.inr (Or.inr (Or.inr (Or.inr (Or.inr (Or.inr (Or.inr (Or.inr (Or.inr (Or.inr (Or.inr (Or.inr (Or.inr (Or.inr (Or.inr (Or.inr (Or.inr (Or.inr (Or.inr (Or.inr (Or.inr (Or.inr (Or.inr (Or.inr (Or.inr (Or.inr (Or.inr (Or.inl (h14)))))))))))))))))))))))))))))))))))))) (fun h14 => h14.elim (fun h15 => Or.inr (Or.inr (Or.inr (Or.inr (Or.inr (Or.inr (Or.inr (Or.inr (Or.inr (Or.inr (Or.inr (Or.inr (Or.inr (Or.inr (Or.inr (Or.inr (Or.inr (Or.inr (Or.inr (Or.inr (Or.inr (Or.inr (Or.inr (Or.inr (Or.inr (Or.inr (Or.inr (Or.inr (Or.inr (Or.inr (Or.inr (Or.inr (Or.inr (Or.inr (Or.inr (Or.inr (Or.inr (Or.inl (h15))))))))))))))))))))))))))))))))))))))) (fun h15 => Or.inr (Or.inr (Or.inr (Or.inr (Or.inr (Or.inr (Or.inr (Or.inr (Or.inr (Or.inr (Or.inr (Or.inr (Or.inr (Or.inr (Or.inr (Or.inr (Or.inr (Or.inr (Or.inr (Or.inr (Or.inr (Or.inr (Or.inr (Or.inr (Or.inr (Or.inr (Or.inr (Or.inr (Or.inr (Or.inr (Or.inr (Or.inr (Or.inr (Or.inr (Or.inr (Or.inr (Or.inr (Or.inr (Or.inl (h15)))))))))))))))))))))))))))))))))))))))))))))))))))))))))
      rcases gb_ite_e h with h | h
      · exact gb_Fr.tr Fr16 (ih h)
      · obtain ⟨r18, er18, h⟩ := gb_bd_e h
        have Fr18 := gb_Fr.tr Fr16 (gb_Fr.up (w_X11_giveBack er18) (fun _ _ hw => hw.elim (fun h0 => Or.inr (Or.inr (Or.inl (h0)))) (fun h0 => h0.elim (fun h1 => Or.inr (Or.inr (Or.inr (Or.inr (Or.inr (Or.inr (Or.inr (Or.inr (Or.inr (Or.inr (Or.inr (Or.inr (Or.inr (Or.inr (Or.inr (Or.inr (Or.inr (Or.inr (Or.inr (Or.inr (Or.inr (Or.inr (Or.inr (Or.inr (Or.inr (Or.inr (Or.inr (Or.inl (h1))))))))))))))))))))))))))))) (fun h1 => h1.elim (fun h2 => Or.inr (Or.inr (Or.inr (Or.inr (Or.inr (Or.inr (Or.inr (Or.inr (Or.inr (Or.inr (Or.inr (Or.inr (Or.inr (Or.inr (Or.inr (Or.inr (Or.inr (Or.inr (Or.inr (Or.inr (Or.inr (Or.inr (Or.inr (Or.inr (Or.inr (Or.inr (Or.inr (Or.inr (Or.inl (h2)))))))))))))))))))))))))))))) (fun h2 => Or.inr (Or.inr (Or.inr (Or.inr (Or.inr (Or.inr (Or.inr (Or.inr (Or.inr (Or.inr (Or.inr (Or.inr (Or.inr (Or.inr (Or.inr (Or.inr (Or.inr (Or.inr (Or.inr (Or.inr (Or.inr (Or.inr (Or.inr (Or.inr (Or.inr (Or.inr (Or.inr (Or.inr (Or.inr (Or.inl (h2)))))))))))))))))))))))))))))))))))
        obtain ⟨g20, eg20, h⟩ := gb_let_x h
        have Fg20 := gb_Fr.tr Fr18 (gb_Fr.pi (Or.inr (Or.inr (Or.inr (Or.inr (Or.inr (Or.inr (Or.inr (Or.inr (Or.inr (Or.inr (Or.inr (Or.inr (Or.inr (Or.inr (Or.inr (Or.inr (Or.inr (Or.inr (Or.inr (Or.inr (Or.inr (Or.inr (Or.inr (Or.inr (Or.inl (⟨rfl, rfl⟩)))))))))))))))))))))))))) eg20)
        obtain ⟨r21, er21, h⟩ := gb_bd_e h
        have Fr21 := gb_Fr.tr Fg20 (gb_Fr.up (w_X11_tell er21) (fun _ _ hw => hw.elim (fun h0 => Or.inr (Or.inl (h0))) (fun h0 => Or.inr (Or.inr (Or.inr (Or.inr (Or.inr (Or.inr (Or.inr (Or.inr (Or.inr (Or.inr (Or.inr (Or.inr (Or.inr (Or.inr (Or.inr (Or.inr (Or.inr (Or.inr (Or.inr (Or.inr (Or.inr (Or.inr (Or.inr (Or.inr (Or.inr (Or.inr (Or.inl (h0))))))))))))))))))))))))))))))
        cases h
        exact Fr21
set_option maxRecDepth 100000 in
set_option maxHeartbeats 4000000 in
theorem w_X11_orders_140 {sh : List gb_Sh}  : ∀ (n : Nat) {g : gb_G} {y1 : Int32} {y2 : Int32} {o : (gb_G × Int32)} (h : f_X11_orders_140 sh n g y1 y2 = some o), gb_Fr (fun c k => (c = 77 ∧ k = 0) ∨ (c = 77 ∧ k = 1) ∨ (c = 77 ∧ k = 8) ∨ (c = 77 ∧ k = 13) ∨ (c = 77 ∧ k = 14) ∨ (c = 77 ∧ k = 15) ∨ (c = 77 ∧ k = 16) ∨ (c = 77 ∧ k = 17) ∨ (c = 77 ∧ k = 18) ∨ (c = 77 ∧ k = 19) ∨ (c = 77 ∧ k = 20) ∨ (c = 77 ∧ k = 21) ∨ (c = 77 ∧ k = 23) ∨ (c = 77 ∧ k = 26) ∨ (c = 77 ∧ k = 29) ∨ (c = 77 ∧ k = 30) ∨ (c = 77 ∧ k = 34) ∨ (c = 77 ∧ k = 38) ∨ (c = 77 ∧ k = 39) ∨ (c = 77 ∧ k = 40) ∨ (c = 77 ∧ k = 41) ∨ (c = 77 ∧ k = 42) ∨ (c = 77 ∧ k = 49) ∨ (c = 77 ∧ k = 50) ∨ (c = 77 ∧ k = 51) ∨ (c = 77 ∧ k = 52) ∨ c = 78 ∨ c = 79 ∨ c = 82 ∨ c = 83 ∨ c = 84 ∨ c = 85 ∨ c = 88 ∨ c = 89 ∨ c = 90 ∨ c = 91 ∨ c = 95 ∨ c = 96 ∨ c = 97 ∨ c = 103) g o.1 := by
  intro n
  induction n with
  | zero => intro g y1 y2 o h; cases h
  | succ n ih =>
    intro g y1 y2 o h
    rw [f_X11_orders_140] at h
    have Fg : gb_Fr (fun c k => (c = 77 ∧ k = 0) ∨ (c = 77 ∧ k = 1) ∨ (c = 77 ∧ k = 8) ∨ (c = 77 ∧ k = 13) ∨ (c = 77 ∧ k = 14) ∨ (c = 77 ∧ k = 15) ∨ (c = 77 ∧ k = 16) ∨ (c = 77 ∧ k = 17) ∨ (c = 77 ∧ k = 18) ∨ (c = 77 ∧ k = 19) ∨ (c = 77 ∧ k = 20) ∨ (c = 77 ∧ k = 21) ∨ (c = 77 ∧ k = 23) ∨ (c = 77 ∧ k = 26) ∨ (c = 77 ∧ k = 29) ∨ (c = 77 ∧ k = 30) ∨ (c = 77 ∧ k = 34) ∨ (c = 77 ∧ k = 38) ∨ (c = 77 ∧ k = 39) ∨ (c = 77 ∧ k = 40) ∨ (c = 77 ∧ k = 41) ∨ (c = 77 ∧ k = 42) ∨ (c = 77 ∧ k = 49) ∨ (c = 77 ∧ k = 50) ∨ (c = 77 ∧ k = 51) ∨ (c = 77 ∧ k = 52) ∨ c = 78 ∨ c = 79 ∨ c = 82 ∨ c = 83 ∨ c = 84 ∨ c = 85 ∨ c = 88 ∨ c = 89 ∨ c = 90 ∨ c = 91 ∨ c = 95 ∨ c = 96 ∨ c = 97 ∨ c = 103) g g := gb_Fr.rf
    rcases gb_ite_e h with h | h
    · obtain ⟨r13, er13, h⟩ := gb_bd_e h
      have Fr13 := gb_Fr.tr Fg (gb_Fr.up (w_X11_tell er13) (fun _ _ hw => hw.elim (fun h0 => Or.inr (Or.inl (h0))) (fun h0 => Or.inr (Or.inr (Or.inr (Or.inr (Or.inr (Or.inr (Or.inr (Or.inr (Or.inr (Or.inr (Or.inr (Or.inr (Or.inr (Or.inr (Or.inr (Or.inr (Or.inr (Or.inr (Or.inr (Or.inr (Or.inr (Or.inr (Or.inr (Or.inr (Or.inr (Or.inr (Or.inl (h0))))))))))))))))))))))))))))))
      cases h
      exact Fr13
    · exact gb_Fr.tr Fg (w_X11_orders_150 (fun hh => ih hh) _ h)
set_option maxRecDepth 100000 in
set_option maxHeartbeats 4000000 in
theorem w_X11_orders_104 {sh : List gb_Sh}  : ∀ (n : Nat) {g : gb_G} {y1 : Int32} {y2 : Int32} {o : (gb_G × Int32)} (h : f_X11_orders_104 sh n g y1 y2 = some o), gb_Fr (fun c k => (c = 77 ∧ k = 0) ∨ (c = 77 ∧ k = 1) ∨ (c = 77 ∧ k = 8) ∨ (c = 77 ∧ k = 13) ∨ (c = 77 ∧ k = 14) ∨ (c = 77 ∧ k = 15) ∨ (c = 77 ∧ k = 16) ∨ (c = 77 ∧ k = 17) ∨ (c = 77 ∧ k = 18) ∨ (c = 77 ∧ k = 19) ∨ (c = 77 ∧ k = 20) ∨ (c = 77 ∧ k = 21) ∨ (c = 77 ∧ k = 23) ∨ (c = 77 ∧ k = 26) ∨ (c = 77 ∧ k = 29) ∨ (c = 77 ∧ k = 30) ∨ (c = 77 ∧ k = 34) ∨ (c = 77 ∧ k = 38) ∨ (c = 77 ∧ k = 39) ∨ (c = 77 ∧ k = 40) ∨ (c = 77 ∧ k = 41) ∨ (c = 77 ∧ k = 42) ∨ (c = 77 ∧ k = 49) ∨ (c = 77 ∧ k = 50) ∨ (c = 77 ∧ k = 51) ∨ (c = 77 ∧ k = 52) ∨ c = 78 ∨ c = 79 ∨ c = 82 ∨ c = 83 ∨ c = 84 ∨ c = 85 ∨ c = 88 ∨ c = 89 ∨ c = 90 ∨ c = 91 ∨ c = 95 ∨ c = 96 ∨ c = 97 ∨ c = 103) g o.1 := by
  intro n
  induction n with
  | zero => intro g y1 y2 o h; cases h
  | succ n ih =>
    intro g y1 y2 o h
    rw [f_X11_orders_104] at h
    have Fg : gb_Fr (fun c k => (c = 77 ∧ k = 0) ∨ (c = 77 ∧ k = 1) ∨ (c = 77 ∧ k = 8) ∨ (c = 77 ∧ k = 13) ∨ (c = 77 ∧ k = 14) ∨ (c = 77 ∧ k = 15) ∨ (c = 77 ∧ k = 16) ∨ (c = 77 ∧ k = 17) ∨ (c = 77 ∧ k = 18) ∨ (c = 77 ∧ k = 19) ∨ (c = 77 ∧ k = 20) ∨ (c = 77 ∧ k = 21) ∨ (c = 77 ∧ k = 23) ∨ (c = 77 ∧ k = 26) ∨ (c = 77 ∧ k = 29) ∨ (c = 77 ∧ k = 30) ∨ (c = 77 ∧ k = 34) ∨ (c = 77 ∧ k = 38) ∨ (c = 77 ∧ k = 39) ∨ (c = 77 ∧ k = 40) ∨ (c = 77 ∧ k = 41) ∨ (c = 77 ∧ k = 42) ∨ (c = 77 ∧ k = 49) ∨ (c = 77 ∧ k = 50) ∨ (c = 77 ∧ k = 51) ∨ (c = 77 ∧ k = 52) ∨ c = 78 ∨ c = 79 ∨ c = 82 ∨ c = 83 ∨ c = 84 ∨ c = 85 ∨ c = 88 ∨ c = 89 ∨ c = 90 ∨ c = 91 ∨ c = 95 ∨ c = 96 ∨ c = 97 ∨ c = 103) g g := gb_Fr.rf
    rcases gb_ite_e h with h | h
    · obtain ⟨g11, eg11, h⟩ := gb_let_x h
      have Fg11 := gb_Fr.tr Fg (gb_Fr.pi (Or.inr (Or.inr (Or.inr (Or.inr (Or.inr (Or.inr (Or.inr (Or.inr (Or.inr (Or.inr (Or.inr (Or.inr (Or.inr (Or.inr (Or.inr (Or.inr (Or.inr (Or.inr (Or.inr (Or.inr (Or.inr (Or.inr (Or.inl (⟨rfl, rfl⟩)))))))))))))))))))))))) eg11)
      obtain ⟨g12, eg12, h⟩ := gb_let_x h
      have Fg12 := gb_Fr.tr Fg11 (gb_Fr.pi (Or.inr (Or.inr (Or.inr (Or.inr (Or.inr (Or.inr (Or.inr (Or.inr (Or.inr (Or.inr (Or.inr (Or.inr (Or.inr (Or.inr (Or.inr (Or.inr (Or.inr (Or.inr (Or.inr (Or.inr (Or.inr (Or.inr (Or.inr (Or.inl (⟨rfl, rfl⟩))))))))))))))))))))))))) eg12)
      exact gb_Fr.tr Fg12 (w_X11_orders_140 _ h)
    · obtain ⟨-, h⟩ := gb_ck_e h
      obtain ⟨-, h⟩ := gb_ck_e h
      obtain ⟨g25, eg25, h⟩ := gb_let_x h
      have Fg25 := gb_Fr.tr Fg (gb_Fr.pi (Or.inr (Or.inr (Or.inr (Or.inr (Or.inr (Or.inr (Or.inr (Or.inr (Or.inr (Or.inr (Or.inr (Or.inr (Or.inr (Or.inr (Or.inr (Or.inr (Or.inr (Or.inr (Or.inr (Or.inr (Or.inr (Or.inr (Or.inr (Or.inr (Or.inr (Or.inr (Or.inr (Or.inr (Or.inr (Or.inr (Or.inr (Or.inl (rfl))))))))))))))))))))))))))))))))) eg25)
      exact gb_Fr.tr Fg25 (ih h)
set_option maxRecDepth 100000 in
set_option maxHeartbeats 4000000 in
theorem w_X11_orders_77 {sh : List gb_Sh}  : ∀ (n : Nat) {g : gb_G} {y1 : Int32} {y2 : Int32} {o : (gb_G × Int32)} (h : f_X11_orders_77 sh n g y1 y2 = some o), gb_Fr (fun c k => (c = 77 ∧ k = 0) ∨ (c = 77 ∧ k = 1) ∨ (c = 77 ∧ k = 8) ∨ (c = 77 ∧ k = 13) ∨ (c = 77 ∧ k = 14) ∨ (c = 77 ∧ k = 15) ∨ (c = 77 ∧ k = 16) ∨ (c = 77 ∧ k = 17) ∨ (c = 77 ∧ k = 18) ∨ (c = 77 ∧ k = 19) ∨ (c = 77 ∧ k = 20) ∨ (c = 77 ∧ k = 21) ∨ (c = 77 ∧ k = 23) ∨ (c = 77 ∧ k = 26) ∨ (c = 77 ∧ k = 29) ∨ (c = 77 ∧ k = 30) ∨ (c = 77 ∧ k = 34) ∨ (c = 77 ∧ k = 38) ∨ (c = 77 ∧ k = 39) ∨ (c = 77 ∧ k = 40) ∨ (c = 77 ∧ k = 41) ∨ (c = 77 ∧ k = 42) ∨ (c = 77 ∧ k = 49) ∨ (c = 77 ∧ k = 50) ∨ (c = 77 ∧ k = 51) ∨ (c = 77 ∧ k = 52) ∨ c = 78 ∨ c = 79 ∨ c = 82 ∨ c = 83 ∨ c = 84 ∨ c = 85 ∨ c = 88 ∨ c = 89 ∨ c = 90 ∨ c = 91 ∨ c = 95 ∨ c = 96 ∨ c = 97 ∨ c = 103) g o.1 := by
  intro n
  induction n with
  | zero => intro g y1 y2 o h; cases h
  | succ n ih =>
    intro g y1 y2 o h
    rw [f_X11_orders_77] at h
    have Fg : gb_Fr (fun c k => (c = 77 ∧ k = 0) ∨ (c = 77 ∧ k = 1) ∨ (c = 77 ∧ k = 8) ∨ (c = 77 ∧ k = 13) ∨ (c = 77 ∧ k = 14) ∨ (c = 77 ∧ k = 15) ∨ (c = 77 ∧ k = 16) ∨ (c = 77 ∧ k = 17) ∨ (c = 77 ∧ k = 18) ∨ (c = 77 ∧ k = 19) ∨ (c = 77 ∧ k = 20) ∨ (c = 77 ∧ k = 21) ∨ (c = 77 ∧ k = 23) ∨ (c = 77 ∧ k = 26) ∨ (c = 77 ∧ k = 29) ∨ (c = 77 ∧ k = 30) ∨ (c = 77 ∧ k = 34) ∨ (c = 77 ∧ k = 38) ∨ (c = 77 ∧ k = 39) ∨ (c = 77 ∧ k = 40) ∨ (c = 77 ∧ k = 41) ∨ (c = 77 ∧ k = 42) ∨ (c = 77 ∧ k = 49) ∨ (c = 77 ∧ k = 50) ∨ (c = 77 ∧ k = 51) ∨ (c = 77 ∧ k = 52) ∨ c = 78 ∨ c = 79 ∨ c = 82 ∨ c = 83 ∨ c = 84 ∨ c = 85 ∨ c = 88 ∨ c = 89 ∨ c = 90 ∨ c = 91 ∨ c = 95 ∨ c = 96 ∨ c = 97 ∨ c = 103) g g := gb_Fr.rf
    rcases gb_ite_e h with h | h
    · exact gb_Fr.tr Fg (w_X11_orders_104 _ h)
    · obtain ⟨-, h⟩ := gb_ck_e h
      obtain ⟨-, h⟩ := gb_ck_e h
      obtain ⟨g28, eg28, h⟩ := gb_let_x h
      have Fg28 := gb_Fr.tr Fg (gb_Fr.pi (Or.inr (Or.inr (Or.inr (Or.inr (Or.inr (Or.inr (Or.inr (Or.inr (Or.inr (Or.inr (Or.inr (Or.inr (Or.inr (Or.inr (Or.inr (Or.inr (Or.inr (Or.inr (Or.inr (Or.inr (Or.inr (Or.inr (Or.inr (Or.inr (Or.inr (Or.inr (Or.inr (Or.inr (Or.inr (Or.inr (Or.inl (rfl)))))))))))))))))))))))))))))))) eg28)
      exact gb_Fr.tr Fg28 (ih h)
set_option maxRecDepth 100000 in
set_option maxHeartbeats 4000000 in
theorem w_X11_orders_46 {sh : List gb_Sh} {g : gb_G}  {o : (gb_G × Int32)} (h : f_X11_orders_46 sh g = some o) : gb_Fr (fun c k => (c = 77 ∧ k = 0) ∨ (c = 77 ∧ k = 1) ∨ (c = 77 ∧ k = 8) ∨ (c = 77 ∧ k = 13) ∨ (c = 77 ∧ k = 14) ∨ (c = 77 ∧ k = 15) ∨ (c = 77 ∧ k = 16) ∨ (c = 77 ∧ k = 17) ∨ (c = 77 ∧ k = 18) ∨ (c = 77 ∧ k = 19) ∨ (c = 77 ∧ k = 20) ∨ (c = 77 ∧ k = 21) ∨ (c = 77 ∧ k = 23) ∨ (c = 77 ∧ k = 26) ∨ (c = 77 ∧ k = 29) ∨ (c = 77 ∧ k = 30) ∨ (c = 77 ∧ k = 34) ∨ (c = 77 ∧ k = 38) ∨ (c = 77 ∧ k = 39) ∨ (c = 77 ∧ k = 40) ∨ (c = 77 ∧ k = 41) ∨ (c = 77 ∧ k = 42) ∨ (c = 77 ∧ k = 49) ∨ (c = 77 ∧ k = 50) ∨ (c = 77 ∧ k = 51) ∨ (c = 77 ∧ k = 52) ∨ c = 78 ∨ c = 79 ∨ c = 82 ∨ c = 83 ∨ c = 84 ∨ c = 85 ∨ c = 88 ∨ c = 89 ∨ c = 90 ∨ c = 91 ∨ c = 95 ∨ c = 96 ∨ c = 97 ∨ c = 103) g o.1 := by
  unfold f_X11_orders_46 at h
  have Fg : gb_Fr (fun c k => (c = 77 ∧ k = 0) ∨ (c = 77 ∧ k = 1) ∨ (c = 77 ∧ k = 8) ∨ (c = 77 ∧ k = 13) ∨ (c = 77 ∧ k = 14) ∨ (c = 77 ∧ k = 15) ∨ (c = 77 ∧ k = 16) ∨ (c = 77 ∧ k = 17) ∨ (c = 77 ∧ k = 18) ∨ (c = 77 ∧ k = 19) ∨ (c = 77 ∧ k = 20) ∨ (c = 77 ∧ k = 21) ∨ (c = 77 ∧ k = 23) ∨ (c = 77 ∧ k = 26) ∨ (c = 77 ∧ k = 29) ∨ (c = 77 ∧ k = 30) ∨ (c = 77 ∧ k = 34) ∨ (c = 77 ∧ k = 38) ∨ (c = 77 ∧ k = 39) ∨ (c = 77 ∧ k = 40) ∨ (c = 77 ∧ k = 41) ∨ (c = 77 ∧ k = 42) ∨ (c = 77 ∧ k = 49) ∨ (c = 77 ∧ k = 50) ∨ (c = 77 ∧ k = 51) ∨ (c = 77 ∧ k = 52) ∨ c = 78 ∨ c = 79 ∨ c = 82 ∨ c = 83 ∨ c = 84 ∨ c = 85 ∨ c = 88 ∨ c = 89 ∨ c = 90 ∨ c = 91 ∨ c = 95 ∨ c = 96 ∨ c = 97 ∨ c = 103) g g := gb_Fr.rf
  obtain ⟨r7, er7, h⟩ := gb_bd_e h
  have Fr7 := gb_Fr.tr Fg (gb_Fr.up (w_X11_endText er7) (fun _ _ hw => hw.elim (fun h0 => Or.inr (Or.inr (Or.inr (Or.inl (h0))))) (fun h0 => h0.elim (fun h1 => Or.inr (Or.inr (Or.inr (Or.inr (Or.inl (h1)))))) (fun h1 => h1.elim (fun h2 => Or.inr (Or.inr (Or.inr (Or.inr (Or.inr (Or.inl (h2))))))) (fun h2 => h2.elim (fun h3 => Or.inr (Or.inr (Or.inr (Or.inr (Or.inr (Or.inr (Or.inl (h3)))))))) (fun h3 => h3.elim (fun h4 => Or.inr (Or.inr (Or.inr (Or.inr (Or.inr (Or.inr (Or.inr (Or.inl (h4))))))))) (fun h4 => h4.elim (fun h5 => Or.inr (Or.inr (Or.inr (Or.inr (Or.inr (Or.inr (Or.inr (Or.inr (Or.inl (h5)))))))))) (fun h5 => h5.elim (fun h6 => Or.inr (Or.inr (Or.inr (Or.inr (Or.inr (Or.inr (Or.inr (Or.inr (Or.inr (Or.inl (h6))))))))))) (fun h6 => Or.inr (Or.inr (Or.inr (Or.inr (Or.inr (Or.inr (Or.inr (Or.inr (Or.inr (Or.inr (Or.inl (h6))))))))))))))))))))
  rcases gb_ite_e h with h | h
  · obtain ⟨r9, er9, h⟩ := gb_bd_e h
    have Fr9 := gb_Fr.tr Fr7 (gb_Fr.up (w_X11_keepAll er9) (fun _ _ hw => Or.inr (Or.inr (Or.inr (Or.inr (Or.inr (Or.inr (Or.inr (Or.inr (Or.inr (Or.inr (Or.inr (Or.inr (Or.inr (Or.inr (Or.inr (Or.inr (Or.inr (Or.inr (Or.inr (Or.inr (Or.inr (Or.inr (Or.inr (Or.inr (Or.inr (Or.inr (Or.inr (Or.inr (Or.inl (hw)))))))))))))))))))))))))))))))
    exact gb_Fr.tr Fr9 (w_X11_orders_77 _ h)
  · obtain ⟨r29, er29, h⟩ := gb_bd_e h
    have Fr29 := gb_Fr.tr Fr7 (gb_Fr.up (w_X11_tell er29) (fun _ _ hw => hw.elim (fun h0 => Or.inr (Or.inl (h0))) (fun h0 => Or.inr (Or.inr (Or.inr (Or.inr (Or.inr (Or.inr (Or.inr (Or.inr (Or.inr (Or.inr (Or.inr (Or.inr (Or.inr (Or.inr (Or.inr (Or.inr (Or.inr (Or.inr (Or.inr (Or.inr (Or.inr (Or.inr (Or.inr (Or.inr (Or.inr (Or.inr (Or.inl (h0))))))))))))))))))))))))))))))
    cases h
    exact Fr29
set_option maxRecDepth 100000 in
set_option maxHeartbeats 4000000 in
theorem w_X11_orders_19 {sh : List gb_Sh}  : ∀ (n : Nat) {g : gb_G} {o : (gb_G × Int32)} (h : f_X11_orders_19 sh n g = some o), gb_Fr (fun c k => (c = 77 ∧ k = 0) ∨ (c = 77 ∧ k = 1) ∨ (c = 77 ∧ k = 8) ∨ (c = 77 ∧ k = 13) ∨ (c = 77 ∧ k = 14) ∨ (c = 77 ∧ k = 15) ∨ (c = 77 ∧ k = 16) ∨ (c = 77 ∧ k = 17) ∨ (c = 77 ∧ k = 18) ∨ (c = 77 ∧ k = 19) ∨ (c = 77 ∧ k = 20) ∨ (c = 77 ∧ k = 21) ∨ (c = 77 ∧ k = 23) ∨ (c = 77 ∧ k = 26) ∨ (c = 77 ∧ k = 29) ∨ (c = 77 ∧ k = 30) ∨ (c = 77 ∧ k = 34) ∨ (c = 77 ∧ k = 38) ∨ (c = 77 ∧ k = 39) ∨ (c = 77 ∧ k = 40) ∨ (c = 77 ∧ k = 41) ∨ (c = 77 ∧ k = 42) ∨ (c = 77 ∧ k = 49) ∨ (c = 77 ∧ k = 50) ∨ (c = 77 ∧ k = 51) ∨ (c = 77 ∧ k = 52) ∨ c = 78 ∨ c = 79 ∨ c = 82 ∨ c = 83 ∨ c = 84 ∨ c = 85 ∨ c = 88 ∨ c = 89 ∨ c = 90 ∨ c = 91 ∨ c = 95 ∨ c = 96 ∨ c = 97 ∨ c = 103) g o.1 := by
  intro n
  induction n with
  | zero => intro g o h; cases h
  | succ n ih =>
    intro g o h
    rw [f_X11_orders_19] at h
    have Fg : gb_Fr (fun c k => (c = 77 ∧ k = 0) ∨ (c = 77 ∧ k = 1) ∨ (c = 77 ∧ k = 8) ∨ (c = 77 ∧ k = 13) ∨ (c = 77 ∧ k = 14) ∨ (c = 77 ∧ k = 15) ∨ (c = 77 ∧ k = 16) ∨ (c = 77 ∧ k = 17) ∨ (c = 77 ∧ k = 18) ∨ (c = 77 ∧ k = 19) ∨ (c = 77 ∧ k = 20) ∨ (c = 77 ∧ k = 21) ∨ (c = 77 ∧ k = 23) ∨ (c = 77 ∧ k = 26) ∨ (c = 77 ∧ k = 29) ∨ (c = 77 ∧ k = 30) ∨ (c = 77 ∧ k = 34) ∨ (c = 77 ∧ k = 38) ∨ (c = 77 ∧ k = 39) ∨ (c = 77 ∧ k = 40) ∨ (c = 77 ∧ k = 41) ∨ (c = 77 ∧ k = 42) ∨ (c = 77 ∧ k = 49) ∨ (c = 77 ∧ k = 50) ∨ (c = 77 ∧ k = 51) ∨ (c = 77 ∧ k = 52) ∨ c = 78 ∨ c = 79 ∨ c = 82 ∨ c = 83 ∨ c = 84 ∨ c = 85 ∨ c = 88 ∨ c = 89 ∨ c = 90 ∨ c = 91 ∨ c = 95 ∨ c = 96 ∨ c = 97 ∨ c = 103) g g := gb_Fr.rf
    rcases gb_ite_e h with h | h
    · obtain ⟨r31, er31, h⟩ := gb_bd_e h
      have Fr31 := gb_Fr.tr Fg (gb_Fr.up (w_X11_isSign er31) (fun _ _ hw => hw.elim))
      rcases gb_ite_e h with h | h
      · exact gb_Fr.tr Fr31 (w_X11_orders_46 h)
      · obtain ⟨r33, er33, h⟩ := gb_bd_e h
        have Fr33 := gb_Fr.tr Fr31 (gb_Fr.up (w_X11_next er33) (fun _ _ hw => hw.elim (fun h0 => Or.inr (Or.inr (Or.inr (Or.inr (Or.inl (h0)))))) (fun h0 => h0.elim (fun h1 => Or.inr (Or.inr (Or.inr (Or.inr (Or.inr (Or.inl (h1))))))) (fun h1 => h1.elim (fun h2 => Or.inr (Or.inr (Or.inr (Or.inr (Or.inr (Or.inr (Or.inl (h2)))))))) (fun h2 => Or.inr (Or.inr (Or.inr (Or.inr (Or.inr (Or.inr (Or.inr (Or.inl (h2)))))))))))))
        obtain ⟨r35, er35, h⟩ := gb_bd_e h
        have Fr35 := gb_Fr.tr Fr33 (gb_Fr.up (w_X11_readOrder er35) (fun _ _ hw => hw.elim (fun h0 => Or.inr (Or.inr (Or.inr (Or.inr (Or.inl (h0)))))) (fun h0 => h0.elim (fun h1 => Or.inr (Or.inr (Or.inr (Or.inr (Or.inr (Or.inl (h1))))))) (fun h1 => h1.elim (fun h2 => Or.inr (Or.inr (Or.inr (Or.inr (Or.inr (Or.inr (Or.inl (h2)))))))) (fun h2 => h2.elim (fun h3 => Or.inr (Or.inr (Or.inr (Or.inr (Or.inr (Or.inr (Or.inr (Or.inl (h3))))))))) (fun h3 => h3.elim (fun h4 => Or.inr (Or.inr (Or.inr (Or.inr (Or.inr (Or.inr (Or.inr (Or.inr (Or.inl (h4)))))))))) (fun h4 => h4.elim (fun h5 => Or.inr (Or.inr (Or.inr (Or.inr (Or.inr (Or.inr (Or.inr (Or.inr (Or.inr (Or.inl (h5))))))))))) (fun h5 => h5.elim (fun h6 => Or.inr (Or.inr (Or.inr (Or.inr (Or.inr (Or.inr (Or.inr (Or.inr (Or.inr (Or.inr (Or.inr (Or.inl (h6))))))))))))) (fun h6 => h6.elim (fun h7 => Or.inr (Or.inr (Or.inr (Or.inr (Or.inr (Or.inr (Or.inr (Or.inr (Or.inr (Or.inr (Or.inr (Or.inr (Or.inl (h7)))))))))))))) (fun h7 => h7.elim (fun h8 => Or.inr (Or.inr (Or.inr (Or.inr (Or.inr (Or.inr (Or.inr (Or.inr (Or.inr (Or.inr (Or.inr (Or.inr (Or.inr (Or.inl (h8))))))))))))))) (fun h8 => h8.elim (fun h9 => Or.inr (Or.inr (Or.inr (Or.inr (Or.inr (Or.inr (Or.inr (Or.inr (Or.inr (Or.inr (Or.inr (Or.inr (Or.inr (Or.inr (Or.inl (h9)))))))))))))))) (fun h9 => h9.elim (fun h10 => Or.inr (Or.inr (Or.inr (Or.inr (Or.inr (Or.inr (Or.inr (Or.inr (Or.inr (Or.inr (Or.inr (Or.inr (Or.inr (Or.inr (Or.inr (Or.inl (h10))))))))))))))))) (fun h10 => h10.elim (fun h11 => Or.inr (Or.inr (Or.inr (Or.inr (Or.inr (Or.inr (Or.inr (Or.inr (Or.inr (Or.inr (Or.inr (Or.inr (Or.inr (Or.inr (Or.inr (Or.inr (Or.inr (Or.inr (Or.inr (Or.inr (Or.inr (Or.inr (Or.inr (Or.inr (Or.inr (Or.inr (Or.inr (Or.inr (Or.inr (Or.inr (Or.inr (Or.inr (Or.inl (h11)))))))))))))))))))))))))))))))))) (fun h11 => h11.elim (fun h12 => Or.inr (Or.inr (Or.inr (Or.inr (Or.inr (Or.inr (Or.inr (Or.inr (Or.inr (Or.inr (Or.inr (Or.inr (Or.inr (Or.inr (Or.inr (Or.inr (Or.inr (Or.inr (Or.inr (Or.inr (Or.inr (Or.inr (Or.inr (Or.inr (Or.inr (Or.inr (Or.inr (Or.inr (Or.inr (Or.inr (Or.inr (Or.inr (Or.inr (Or.inl (h12))))))))))))))))))))))))))))))))))) (fun h12 => h12.elim (fun h13 => Or.inr (Or.inr (Or.inr (Or.inr (Or.inr (Or.inr (Or.inr (Or.inr (Or.inr (Or.inr (Or.inr (Or.inr (Or.inr (Or.inr (Or.inr (Or.inr (Or.inr (Or.inr (Or.inr (Or.inr (Or.inr (Or.inr (Or.inr (Or.inr (Or.inr (Or.inr (Or.inr (Or.inr (Or.inr (Or.inr (Or.inr (Or.inr (Or.inr (Or.inr (Or.inl (h13)))))))))))))))))))))))))))))))))))) (fun h13 => h13.elim (fun h14 => Or.inr (Or.inr (Or.inr (Or.inr (Or.inr (Or.inr (Or.inr (Or.inr (Or.inr (Or.inr (Or.inr (Or.inr (Or.inr (Or.inr (Or.inr (Or.inr (Or.inr (Or.inr (Or.inr (Or.inr (Or.inr (Or.inr (Or.inr (Or.inr (Or.inr (Or.inr (Or.inr (Or.inr (Or.inr (Or.inr (Or.inr (Or.inr (Or.inr (Or.inr (Or.inr (Or.inl (h14))))))))))))))))))))))))))))))))))))) (fun h14 => Or.inr (Or.inr (Or.inr (Or.inr (Or.inr (Or.inr (Or.inr (Or.inr (Or.inr (Or.inr (Or.inr (Or.inr (Or.inr (Or.inr (Or.inr (Or.inr (Or.inr (Or.inr (Or.inr (Or.inr (Or.inr (Or.inr (Or.inr (Or.inr (Or.inr (Or.inr (Or.inr (Or.inr (Or.inr (Or.inr (Or.inr (Or.inr (Or.inr (Or.inr (Or.inr (Or.inr (Or.inr (Or.inr (Or.inr (h14))))))))))))))))))))))))))))))))))))))))))))))))))))))))
        exact gb_Fr.tr Fr35 (ih h)
    · exact gb_Fr.tr Fg (w_X11_orders_46 h)
set_option maxRecDepth 100000 in
set_option maxHeartbeats 4000000 in
theorem w_X11_orders {sh : List gb_Sh} {g : gb_G}  {o : (gb_G × Int32)} (h : f_X11_orders sh g = some o) : gb_Fr (fun c k => (c = 77 ∧ k = 0) ∨ (c = 77 ∧ k = 1) ∨ (c = 77 ∧ k = 8) ∨ (c = 77 ∧ k = 13) ∨ (c = 77 ∧ k = 14) ∨ (c = 77 ∧ k = 15) ∨ (c = 77 ∧ k = 16) ∨ (c = 77 ∧ k = 17) ∨ (c = 77 ∧ k = 18) ∨ (c = 77 ∧ k = 19) ∨ (c = 77 ∧ k = 20) ∨ (c = 77 ∧ k = 21) ∨ (c = 77 ∧ k = 23) ∨ (c = 77 ∧ k = 26) ∨ (c = 77 ∧ k = 29) ∨ (c = 77 ∧ k = 30) ∨ (c = 77 ∧ k = 34) ∨ (c = 77 ∧ k = 38) ∨ (c = 77 ∧ k = 39) ∨ (c = 77 ∧ k = 40) ∨ (c = 77 ∧ k = 41) ∨ (c = 77 ∧ k = 42) ∨ (c = 77 ∧ k = 49) ∨ (c = 77 ∧ k = 50) ∨ (c = 77 ∧ k = 51) ∨ (c = 77 ∧ k = 52) ∨ c = 78 ∨ c = 79 ∨ c = 82 ∨ c = 83 ∨ c = 84 ∨ c = 85 ∨ c = 88 ∨ c = 89 ∨ c = 90 ∨ c = 91 ∨ c = 95 ∨ c = 96 ∨ c = 97 ∨ c = 103) g o.1 := by
  unfold f_X11_orders at h
  have Fg : gb_Fr (fun c k => (c = 77 ∧ k = 0) ∨ (c = 77 ∧ k = 1) ∨ (c = 77 ∧ k = 8) ∨ (c = 77 ∧ k = 13) ∨ (c = 77 ∧ k = 14) ∨ (c = 77 ∧ k = 15) ∨ (c = 77 ∧ k = 16) ∨ (c = 77 ∧ k = 17) ∨ (c = 77 ∧ k = 18) ∨ (c = 77 ∧ k = 19) ∨ (c = 77 ∧ k = 20) ∨ (c = 77 ∧ k = 21) ∨ (c = 77 ∧ k = 23) ∨ (c = 77 ∧ k = 26) ∨ (c = 77 ∧ k = 29) ∨ (c = 77 ∧ k = 30) ∨ (c = 77 ∧ k = 34) ∨ (c = 77 ∧ k = 38) ∨ (c = 77 ∧ k = 39) ∨ (c = 77 ∧ k = 40) ∨ (c = 77 ∧ k = 41) ∨ (c = 77 ∧ k = 42) ∨ (c = 77 ∧ k = 49) ∨ (c = 77 ∧ k = 50) ∨ (c = 77 ∧ k = 51) ∨ (c = 77 ∧ k = 52) ∨ c = 78 ∨ c = 79 ∨ c = 82 ∨ c = 83 ∨ c = 84 ∨ c = 85 ∨ c = 88 ∨ c = 89 ∨ c = 90 ∨ c = 91 ∨ c = 95 ∨ c = 96 ∨ c = 97 ∨ c = 103) g g := gb_Fr.rf
  obtain ⟨g1, eg1, h⟩ := gb_let_x h
  have Fg1 := gb_Fr.tr Fg (gb_Fr.pi (Or.inl (⟨rfl, rfl⟩)) eg1)
  obtain ⟨g2, eg2, h⟩ := gb_let_x h
  have Fg2 := gb_Fr.tr Fg1 (gb_Fr.pi (Or.inr (Or.inr (Or.inr (Or.inr (Or.inr (Or.inr (Or.inr (Or.inr (Or.inr (Or.inr (Or.inr (Or.inr (Or.inr (Or.inr (Or.inr (Or.inr (Or.inr (Or.inr (Or.inr (Or.inr (Or.inr (Or.inr (Or.inr (Or.inr (Or.inl (⟨rfl, rfl⟩)))))))))))))))))))))))))) eg2)
  obtain ⟨r3, er3, h⟩ := gb_bd_e h
  have Fr3 := gb_Fr.tr Fg2 (gb_Fr.up (w_X11_beginText er3) (fun _ _ hw => hw.elim (fun h0 => Or.inr (Or.inr (Or.inr (Or.inr (Or.inl (h0)))))) (fun h0 => h0.elim (fun h1 => Or.inr (Or.inr (Or.inr (Or.inr (Or.inr (Or.inl (h1))))))) (fun h1 => h1.elim (fun h2 => Or.inr (Or.inr (Or.inr (Or.inr (Or.inr (Or.inr (Or.inl (h2)))))))) (fun h2 => h2.elim (fun h3 => Or.inr (Or.inr (Or.inr (Or.inr (Or.inr (Or.inr (Or.inr (Or.inl (h3))))))))) (fun h3 => h3.elim (fun h4 => Or.inr (Or.inr (Or.inr (Or.inr (Or.inr (Or.inr (Or.inr (Or.inr (Or.inl (h4)))))))))) (fun h4 => h4.elim (fun h5 => Or.inr (Or.inr (Or.inr (Or.inr (Or.inr (Or.inr (Or.inr (Or.inr (Or.inr (Or.inl (h5))))))))))) (fun h5 => h5.elim (fun h6 => Or.inr (Or.inr (Or.inr (Or.inr (Or.inr (Or.inr (Or.inr (Or.inr (Or.inr (Or.inr (Or.inl (h6)))))))))))) (fun h6 => h6.elim (fun h7 => Or.inr (Or.inr (Or.inr (Or.inr (Or.inr (Or.inr (Or.inr (Or.inr (Or.inr (Or.inr (Or.inr (Or.inl (h7))))))))))))) (fun h7 => h7.elim (fun h8 => Or.inr (Or.inr (Or.inr (Or.inr (Or.inr (Or.inr (Or.inr (Or.inr (Or.inr (Or.inr (Or.inr (Or.inr (Or.inl (h8)))))))))))))) (fun h8 => Or.inr (Or.inr (Or.inr (Or.inr (Or.inr (Or.inr (Or.inr (Or.inr (Or.inr (Or.inr (Or.inr (Or.inr (Or.inr (Or.inl (h8)))))))))))))))))))))))))
  obtain ⟨r5, er5, h⟩ := gb_bd_e h
  have Fr5 := gb_Fr.tr Fr3 (gb_Fr.up (w_X11_readOrder er5) (fun _ _ hw => hw.elim (fun h0 => Or.inr (Or.inr (Or.inr (Or.inr (Or.inl (h0)))))) (fun h0 => h0.elim (fun h1 => Or.inr (Or.inr (Or.inr (Or.inr (Or.inr (Or.inl (h1))))))) (fun h1 => h1.elim (fun h2 => Or.inr (Or.inr (Or.inr (Or.inr (Or.inr (Or.inr (Or.inl (h2)))))))) (fun h2 => h2.elim (fun h3 => Or.inr (Or.inr (Or.inr (Or.inr (Or.inr (Or.inr (Or.inr (Or.inl (h3))))))))) (fun h3 => h3.elim (fun h4 => Or.inr (Or.inr (Or.inr (Or.inr (Or.inr (Or.inr (Or.inr (Or.inr (Or.inl (h4)))))))))) (fun h4 => h4.elim (fun h5 => Or.inr (Or.inr (Or.inr (Or.inr (Or.inr (Or.inr (Or.inr (Or.inr (Or.inr (Or.inl (h5))))))))))) (fun h5 => h5.elim (fun h6 => Or.inr (Or.inr (Or.inr (Or.inr (Or.inr (Or.inr (Or.inr (Or.inr (Or.inr (Or.inr (Or.inr (Or.inl (h6))))))))))))) (fun h6 => h6.elim (fun h7 => Or.inr (Or.inr (Or.inr (Or.inr (Or.inr (Or.inr (Or.inr (Or.inr (Or.inr (Or.inr (Or.inr (Or.inr (Or.inl (h7)))))))))))))) (fun h7 => h7.elim (fun h8 => Or.inr (Or.inr (Or.inr (Or.inr (Or.inr (Or.inr (Or.inr (Or.inr (Or.inr (Or.inr (Or.inr (Or.inr (Or.inr (Or.inl (h8))))))))))))))) (fun h8 => h8.elim (fun h9 => Or.inr (Or.inr (Or.inr (Or.inr (Or.inr (Or.inr (Or.inr (Or.inr (Or.inr (Or.inr (Or.inr (Or.inr (Or.inr (Or.inr (Or.inl (h9)))))))))))))))) (fun h9 => h9.elim (fun h10 => Or.inr (Or.inr (Or.inr (Or.inr (Or.inr (Or.inr (Or.inr (Or.inr (Or.inr (Or.inr (Or.inr (Or.inr (Or.inr (Or.inr (Or.inr (Or.inl (h10))))))))))))))))) (fun h10 => h10.elim (fun h11 => Or.inr (Or.inr (Or.inr (Or.inr (Or.inr (Or.inr (Or.inr (Or.inr (Or.inr (Or.inr (Or.inr (Or.inr (Or.inr (Or.inr (Or.inr (Or.inr (Or.inr (Or.inr (Or.inr (Or.inr (Or.inr (Or.inr (Or.inr (Or.inr (Or.inr (Or.inr (Or.inr (Or.inr (Or.inr (Or.inr (Or.inr (Or.inr (Or.inl (h11)))))))))))))))))))))))))))))))))) (fun h11 => h11.elim (fun h12 => Or.inr (Or.inr (Or.inr (Or.inr (Or.inr (Or.inr (Or.inr (Or.inr (Or.inr (Or.inr (Or.inr (Or.inr (Or.inr (Or.inr (Or.inr (Or.inr (Or.inr (Or.inr (Or.inr (Or.inr (Or.inr (Or.inr (Or.inr (Or.inr (Or.inr (Or.inr (Or.inr (Or.inr (Or.inr (Or.inr (Or.inr (Or.inr (Or.inr (Or.inl (h12))))))))))))))))))))))))))))))))))) (fun h12 => h12.elim (fun h13 => Or.inr (Or.inr (Or.inr (Or.inr (Or.inr (Or.inr (Or.inr (Or.inr (Or.inr (Or.inr (Or.inr (Or.inr (Or.inr (Or.inr (Or.inr (Or.inr (Or.inr (Or.inr (Or.inr (Or.inr (Or.inr (Or.inr (Or.inr (Or.inr (Or.inr (Or.inr (Or.inr (Or.inr (Or.inr (Or.inr (Or.inr (Or.inr (Or.inr (Or.inr (Or.inl (h13)))))))))))))))))))))))))))))))))))) (fun h13 => h13.elim (fun h14 => Or.inr (Or.inr (Or.inr (Or.inr (Or.inr (Or.inr (Or.inr (Or.inr (Or.inr (Or.inr (Or.inr (Or.inr (Or.inr (Or.inr (Or.inr (Or.inr (Or.inr (Or.inr (Or.inr (Or.inr (Or.inr (Or.inr (Or.inr (Or.inr (Or.inr (Or.inr (Or.inr (Or.inr (Or.inr (Or.inr (Or.inr (Or.inr (Or.inr (Or.inr (Or.inr (Or.inl (h14))))))))))))))))))))))))))))))))))))) (fun h14 => Or.inr (Or.inr (Or.inr (Or.inr (Or.inr (Or.inr (Or.inr (Or.inr (Or.inr (Or.inr (Or.inr (Or.inr (Or.inr (Or.inr (Or.inr (Or.inr (Or.inr (Or.inr (Or.inr (Or.inr (Or.inr (Or.inr (Or.inr (Or.inr (Or.inr (Or.inr (Or.inr (Or.inr (Or.inr (Or.inr (Or.inr (Or.inr (Or.inr (Or.inr (Or.inr (Or.inr (Or.inr (Or.inr (Or.inr (h14))))))))))))))))))))))))))))))))))))))))))))))))))))))))
  exact gb_Fr.tr Fr5 (w_X11_orders_19 _ h)
set_option maxRecDepth 100000 in
set_option maxHeartbeats 4000000 in
theorem w_X11_stopped {sh : List gb_Sh} {g : gb_G}  {o : (gb_G × Int32)} (h : f_X11_stopped sh g = some o) : gb_Fr (fun c k => (c = 77 ∧ k = 0)) g o.1 := by
  unfold f_X11_stopped at h
  have Fg : gb_Fr (fun c k => (c = 77 ∧ k = 0)) g g := gb_Fr.rf
  obtain ⟨g1, eg1, h⟩ := gb_let_x h
  have Fg1 := gb_Fr.tr Fg (gb_Fr.pi (⟨rfl, rfl⟩) eg1)
  cases h
  exact Fg1
set_option maxRecDepth 100000 in
set_option maxHeartbeats 4000000 in
theorem w_X11_draw {sh : List gb_Sh} {x1 : Int32} {g : gb_G}  {o : (gb_G × Int32)} (h : f_X11_draw sh g x1 = some o) : gb_Fr (fun c k => (c = 77 ∧ k = 53)) g o.1 := by
  unfold f_X11_draw at h
  have Fg : gb_Fr (fun c k => (c = 77 ∧ k = 53)) g g := gb_Fr.rf
  obtain ⟨g1, eg1, h⟩ := gb_let_x h
  have Fg1 := gb_Fr.tr Fg (gb_Fr.pj (⟨rfl, rfl⟩) eg1)
  obtain ⟨-, h⟩ := gb_nzl_e h
  cases h
  exact Fg1
set_option maxRecDepth 100000 in
set_option maxHeartbeats 4000000 in
theorem w_X11_years_29 {sh : List gb_Sh} {g : gb_G}  {o : (gb_G × Int32)} (h : f_X11_years_29 sh g = some o) : gb_Fr (fun c k => (c = 77 ∧ k = 0) ∨ (c = 77 ∧ k = 1) ∨ (c = 77 ∧ k = 34) ∨ (c = 77 ∧ k = 38) ∨ (c = 77 ∧ k = 39) ∨ (c = 77 ∧ k = 40) ∨ (c = 77 ∧ k = 41) ∨ (c = 77 ∧ k = 42) ∨ (c = 77 ∧ k = 53) ∨ (c = 77 ∧ k = 55) ∨ c = 78 ∨ c = 79 ∨ c = 82 ∨ c = 95 ∨ c = 97 ∨ c = 104) g o.1 := by
  unfold f_X11_years_29 at h
  have Fg : gb_Fr (fun c k => (c = 77 ∧ k = 0) ∨ (c = 77 ∧ k = 1) ∨ (c = 77 ∧ k = 34) ∨ (c = 77 ∧ k = 38) ∨ (c = 77 ∧ k = 39) ∨ (c = 77 ∧ k = 40) ∨ (c = 77 ∧ k = 41) ∨ (c = 77 ∧ k = 42) ∨ (c = 77 ∧ k = 53) ∨ (c = 77 ∧ k = 55) ∨ c = 78 ∨ c = 79 ∨ c = 82 ∨ c = 95 ∨ c = 97 ∨ c = 104) g g := gb_Fr.rf
  obtain ⟨r4, er4, h⟩ := gb_bd_e h
  have Fr4 := gb_Fr.tr Fg (gb_Fr.up (w_X11_tell er4) (fun _ _ hw => hw.elim (fun h0 => Or.inr (Or.inl (h0))) (fun h0 => Or.inr (Or.inr (Or.inr (Or.inr (Or.inr (Or.inr (Or.inr (Or.inr (Or.inr (Or.inr (Or.inl (h0))))))))))))))
  cases h
  exact Fr4
set_option maxRecDepth 100000 in
set_option maxHeartbeats 4000000 in
theorem w_X11_years_235 {sh : List gb_Sh}  : ∀ (n : Nat) {g : gb_G} {y3 : Int32} {y4 : Int32} {o : (gb_G × Int32)} (h : f_X11_years_235 sh n g y3 y4 = some o), gb_Fr (fun c k => (c = 77 ∧ k = 0) ∨ (c = 77 ∧ k = 1) ∨ (c = 77 ∧ k = 34) ∨ (c = 77 ∧ k = 38) ∨ (c = 77 ∧ k = 39) ∨ (c = 77 ∧ k = 40) ∨ (c = 77 ∧ k = 41) ∨ (c = 77 ∧ k = 42) ∨ (c = 77 ∧ k = 53) ∨ (c = 77 ∧ k = 55) ∨ c = 78 ∨ c = 79 ∨ c = 82 ∨ c = 95 ∨ c = 97 ∨ c = 104) g o.1 := by
  intro n
  induction n with
  | zero => intro g y3 y4 o h; cases h
  | succ n ih =>
    intro g y3 y4 o h
    rw [f_X11_years_235] at h
    have Fg : gb_Fr (fun c k => (c = 77 ∧ k = 0) ∨ (c = 77 ∧ k = 1) ∨ (c = 77 ∧ k = 34) ∨ (c = 77 ∧ k = 38) ∨ (c = 77 ∧ k = 39) ∨ (c = 77 ∧ k = 40) ∨ (c = 77 ∧ k = 41) ∨ (c = 77 ∧ k = 42) ∨ (c = 77 ∧ k = 53) ∨ (c = 77 ∧ k = 55) ∨ c = 78 ∨ c = 79 ∨ c = 82 ∨ c = 95 ∨ c = 97 ∨ c = 104) g g := gb_Fr.rf
    rcases gb_ite_e h with h | h
    · obtain ⟨r12, er12, h⟩ := gb_bd_e h
      have Fr12 := gb_Fr.tr Fg (gb_Fr.up (w_X11_putBack er12) (fun _ _ hw => Or.inr (Or.inr (Or.inr (Or.inr (Or.inr (Or.inr (Or.inr (Or.inr (Or.inr (Or.inr (Or.inr (Or.inl (hw))))))))))))))
      obtain ⟨r14, er14, h⟩ := gb_bd_e h
      have Fr14 := gb_Fr.tr Fr12 (gb_Fr.up (w_X11_tell er14) (fun _ _ hw => hw.elim (fun h0 => Or.inr (Or.inl (h0))) (fun h0 => Or.inr (Or.inr (Or.inr (Or.inr (Or.inr (Or.inr (Or.inr (Or.inr (Or.inr (Or.inr (Or.inl (h0))))))))))))))
      cases h
      exact Fr14
    · obtain ⟨-, h⟩ := gb_ck_e h
      obtain ⟨-, h⟩ := gb_ck_e h
      obtain ⟨g18, eg18, h⟩ := gb_let_x h
      have Fg18 := gb_Fr.tr Fg (gb_Fr.pi (Or.inr (Or.inr (Or.inr (Or.inr (Or.inr (Or.inr (Or.inr (Or.inr (Or.inr (Or.inr (Or.inr (Or.inr (Or.inr (Or.inr (Or.inr (rfl)))))))))))))))) eg18)
      obtain ⟨-, h⟩ := gb_ck_e h
      obtain ⟨-, h⟩ := gb_ck_e h
      obtain ⟨g21, eg21, h⟩ := gb_let_x h
      have Fg21 := gb_Fr.tr Fg18 (gb_Fr.pi (Or.inr (Or.inr (Or.inr (Or.inr (Or.inr (Or.inr (Or.inr (Or.inr (Or.inr (Or.inr (Or.inr (Or.inr (Or.inr (Or.inr (Or.inr (rfl)))))))))))))))) eg21)
      exact gb_Fr.tr Fg21 (ih h)
set_option maxRecDepth 100000 in
set_option maxHeartbeats 4000000 in
theorem w_X11_years_222 {sh : List gb_Sh} {y3 : Int32} {g : gb_G}  {o : (gb_G × Int32)} (h : f_X11_years_222 sh g y3 = some o) : gb_Fr (fun c k => (c = 77 ∧ k = 0) ∨ (c = 77 ∧ k = 1) ∨ (c = 77 ∧ k = 34) ∨ (c = 77 ∧ k = 38) ∨ (c = 77 ∧ k = 39) ∨ (c = 77 ∧ k = 40) ∨ (c = 77 ∧ k = 41) ∨ (c = 77 ∧ k = 42) ∨ (c = 77 ∧ k = 53) ∨ (c = 77 ∧ k = 55) ∨ c = 78 ∨ c = 79 ∨ c = 82 ∨ c = 95 ∨ c = 97 ∨ c = 104) g o.1 := by
  unfold f_X11_years_222 at h
  have Fg : gb_Fr (fun c k => (c = 77 ∧ k = 0) ∨ (c = 77 ∧ k = 1) ∨ (c = 77 ∧ k = 34) ∨ (c = 77 ∧ k = 38) ∨ (c = 77 ∧ k = 39) ∨ (c = 77 ∧ k = 40) ∨ (c = 77 ∧ k = 41) ∨ (c = 77 ∧ k = 42) ∨ (c = 77 ∧ k = 53) ∨ (c = 77 ∧ k = 55) ∨ c = 78 ∨ c = 79 ∨ c = 82 ∨ c = 95 ∨ c = 97 ∨ c = 104) g g := gb_Fr.rf
  obtain ⟨g11, eg11, h⟩ := gb_let_x h
  have Fg11 := gb_Fr.tr Fg (gb_Fr.pi (Or.inr (Or.inr (Or.inr (Or.inr (Or.inr (Or.inr (Or.inr (Or.inr (Or.inr (Or.inl (⟨rfl, rfl⟩))))))))))) eg11)
  exact gb_Fr.tr Fg11 (w_X11_years_235 _ h)
set_option maxRecDepth 100000 in
set_option maxHeartbeats 4000000 in
theorem w_X11_years_215 {sh : List gb_Sh} {K68 : gb_G → Int32 → Int32 → Int32 → Option (gb_G × Int32)} {y2 : Int32} {y4 : Int32} {z0 : Int32} {g : gb_G} (hK68 : ∀ {a0 : gb_G} {a1 : Int32} {a2 : Int32} {a3 : Int32} {o : (gb_G × Int32)}, K68 a0 a1 a2 a3 = some o → gb_Fr (fun c k => (c = 77 ∧ k = 0) ∨ (c = 77 ∧ k = 1) ∨ (c = 77 ∧ k = 34) ∨ (c = 77 ∧ k = 38) ∨ (c = 77 ∧ k = 39) ∨ (c = 77 ∧ k = 40) ∨ (c = 77 ∧ k = 41) ∨ (c = 77 ∧ k = 42) ∨ (c = 77 ∧ k = 53) ∨ (c = 77 ∧ k = 55) ∨ c = 78 ∨ c = 79 ∨ c = 82 ∨ c = 95 ∨ c = 97 ∨ c = 104) a0 o.1) {o : (gb_G × Int32)} (h : f_X11_years_215 sh K68 g y2 y4 z0 = some o) : gb_Fr (fun c k => (c = 77 ∧ k = 0) ∨ (c = 77 ∧ k = 1) ∨ (c = 77 ∧ k = 34) ∨ (c = 77 ∧ k = 38) ∨ (c = 77 ∧ k = 39) ∨ (c = 77 ∧ k = 40) ∨ (c = 77 ∧ k = 41) ∨ (c = 77 ∧ k = 42) ∨ (c = 77 ∧ k = 53) ∨ (c = 77 ∧ k = 55) ∨ c = 78 ∨ c = 79 ∨ c = 82 ∨ c = 95 ∨ c = 97 ∨ c = 104) g o.1 := by
  unfold f_X11_years_215 at h
  have Fg : gb_Fr (fun c k => (c = 77 ∧ k = 0) ∨ (c = 77 ∧ k = 1) ∨ (c = 77 ∧ k = 34) ∨ (c = 77 ∧ k = 38) ∨ (c = 77 ∧ k = 39) ∨ (c = 77 ∧ k = 40) ∨ (c = 77 ∧ k = 41) ∨ (c = 77 ∧ k = 42) ∨ (c = 77 ∧ k = 53) ∨ (c = 77 ∧ k = 55) ∨ c = 78 ∨ c = 79 ∨ c = 82 ∨ c = 95 ∨ c = 97 ∨ c = 104) g g := gb_Fr.rf
  exact gb_Fr.tr Fg (hK68 h)
set_option maxRecDepth 100000 in
set_option maxHeartbeats 4000000 in
theorem w_X11_years_184 {sh : List gb_Sh} {K68 : gb_G → Int32 → Int32 → Int32 → Option (gb_G × Int32)} {y2 : Int32} {y3 : Int32} {y4 : Int32} {z0 : Int32} {z1 : Int32} {z2 : Int32} {g : gb_G} (hK68 : ∀ {a0 : gb_G} {a1 : Int32} {a2 : Int32} {a3 : Int32} {o : (gb_G × Int32)}, K68 a0 a1 a2 a3 = some o → gb_Fr (fun c k => (c = 77 ∧ k = 0) ∨ (c = 77 ∧ k = 1) ∨ (c = 77 ∧ k = 34) ∨ (c = 77 ∧ k = 38) ∨ (c = 77 ∧ k = 39) ∨ (c = 77 ∧ k = 40) ∨ (c = 77 ∧ k = 41) ∨ (c = 77 ∧ k = 42) ∨ (c = 77 ∧ k = 53) ∨ (c = 77 ∧ k = 55) ∨ c = 78 ∨ c = 79 ∨ c = 82 ∨ c = 95 ∨ c = 97 ∨ c = 104) a0 o.1) {o : (gb_G × Int32)} (h : f_X11_years_184 sh K68 g y2 y3 y4 z0 z1 z2 = some o) : gb_Fr (fun c k => (c = 77 ∧ k = 0) ∨ (c = 77 ∧ k = 1) ∨ (c = 77 ∧ k = 34) ∨ (c = 77 ∧ k = 38) ∨ (c = 77 ∧ k = 39) ∨ (c = 77 ∧ k = 40) ∨ (c = 77 ∧ k = 41) ∨ (c = 77 ∧ k = 42) ∨ (c = 77 ∧ k = 53) ∨ (c = 77 ∧ k = 55) ∨ c = 78 ∨ c = 79 ∨ c = 82 ∨ c = 95 ∨ c = 97 ∨ c = 104) g o.1 := by
  unfold f_X11_years_184 at h
  have Fg : gb_Fr (fun c k => (c = 77 ∧ k = 0) ∨ (c = 77 ∧ k = 1) ∨ (c = 77 ∧ k = 34) ∨ (c = 77 ∧ k = 38) ∨ (c = 77 ∧ k = 39) ∨ (c = 77 ∧ k = 40) ∨ (c = 77 ∧ k = 41) ∨ (c = 77 ∧ k = 42) ∨ (c = 77 ∧ k = 53) ∨ (c = 77 ∧ k = 55) ∨ c = 78 ∨ c = 79 ∨ c = 82 ∨ c = 95 ∨ c = 97 ∨ c = 104) g g := gb_Fr.rf
  obtain ⟨r30, er30, h⟩ := gb_bd_e h
  have Fr30 := gb_Fr.tr Fg (gb_Fr.up (w_X11_within er30) (fun _ _ hw => hw.elim))
  obtain ⟨-, h⟩ := gb_ck_e h
  obtain ⟨g33, eg33, h⟩ := gb_let_x h
  have Fg33 := gb_Fr.tr Fr30 (gb_Fr.pi (Or.inr (Or.inr (Or.inr (Or.inr (Or.inr (Or.inr (Or.inr (Or.inr (Or.inr (Or.inr (Or.inr (Or.inl (rfl))))))))))))) eg33)
  obtain ⟨r34, er34, h⟩ := gb_bd_e h
  have Fr34 := gb_Fr.tr Fg33 (gb_Fr.up (w_X11_passIt er34) (fun _ _ hw => hw.elim (fun h0 => Or.inr (Or.inr (Or.inl (h0)))) (fun h0 => h0.elim (fun h1 => Or.inr (Or.inr (Or.inr (Or.inl (h1))))) (fun h1 => h1.elim (fun h2 => Or.inr (Or.inr (Or.inr (Or.inr (Or.inl (h2)))))) (fun h2 => h2.elim (fun h3 => Or.inr (Or.inr (Or.inr (Or.inr (Or.inr (Or.inl (h3))))))) (fun h3 => h3.elim (fun h4 => Or.inr (Or.inr (Or.inr (Or.inr (Or.inr (Or.inr (Or.inr (Or.inr (Or.inr (Or.inr (Or.inr (Or.inl (h4))))))))))))) (fun h4 => h4.elim (fun h5 => Or.inr (Or.inr (Or.inr (Or.inr (Or.inr (Or.inr (Or.inr (Or.inr (Or.inr (Or.inr (Or.inr (Or.inr (Or.inr (Or.inl (h5))))))))))))))) (fun h5 => Or.inr (Or.inr (Or.inr (Or.inr (Or.inr (Or.inr (Or.inr (Or.inr (Or.inr (Or.inr (Or.inr (Or.inr (Or.inr (Or.inr (Or.inl (h5)))))))))))))))))))))))
  obtain ⟨r36, er36, h⟩ := gb_bd_e h
  have Fr36 := gb_Fr.tr Fr34 (gb_Fr.up (w_X11_pensionNow er36) (fun _ _ hw => hw.elim (fun h0 => Or.inr (Or.inr (Or.inl (h0)))) (fun h0 => h0.elim (fun h1 => Or.inr (Or.inr (Or.inr (Or.inl (h1))))) (fun h1 => h1.elim (fun h2 => Or.inr (Or.inr (Or.inr (Or.inr (Or.inl (h2)))))) (fun h2 => h2.elim (fun h3 => Or.inr (Or.inr (Or.inr (Or.inr (Or.inr (Or.inl (h3))))))) (fun h3 => h3.elim (fun h4 => Or.inr (Or.inr (Or.inr (Or.inr (Or.inr (Or.inr (Or.inl (h4)))))))) (fun h4 => h4.elim (fun h5 => Or.inr (Or.inr (Or.inr (Or.inr (Or.inr (Or.inr (Or.inr (Or.inl (h5))))))))) (fun h5 => h5.elim (fun h6 => Or.inr (Or.inr (Or.inr (Or.inr (Or.inr (Or.inr (Or.inr (Or.inr (Or.inr (Or.inr (Or.inr (Or.inr (Or.inr (Or.inl (h6))))))))))))))) (fun h6 => Or.inr (Or.inr (Or.inr (Or.inr (Or.inr (Or.inr (Or.inr (Or.inr (Or.inr (Or.inr (Or.inr (Or.inr (Or.inr (Or.inr (Or.inl (h6))))))))))))))))))))))))
  rcases gb_ite_e h with h | h
  · exact gb_Fr.tr Fr36 (w_X11_years_215 (hK68) h)
  · exact gb_Fr.tr Fr36 (w_X11_years_215 (hK68) h)
set_option maxRecDepth 100000 in
set_option maxHeartbeats 4000000 in
theorem w_X11_years_143 {sh : List gb_Sh} {K68 : gb_G → Int32 → Int32 → Int32 → Option (gb_G × Int32)} {y2 : Int32} {y3 : Int32} {y4 : Int32} {y5 : Int32} {y6 : Int32} {z0 : Int32} {z1 : Int32} {g : gb_G} (hK68 : ∀ {a0 : gb_G} {a1 : Int32} {a2 : Int32} {a3 : Int32} {o : (gb_G × Int32)}, K68 a0 a1 a2 a3 = some o → gb_Fr (fun c k => (c = 77 ∧ k = 0) ∨ (c = 77 ∧ k = 1) ∨ (c = 77 ∧ k = 34) ∨ (c = 77 ∧ k = 38) ∨ (c = 77 ∧ k = 39) ∨ (c = 77 ∧ k = 40) ∨ (c = 77 ∧ k = 41) ∨ (c = 77 ∧ k = 42) ∨ (c = 77 ∧ k = 53) ∨ (c = 77 ∧ k = 55) ∨ c = 78 ∨ c = 79 ∨ c = 82 ∨ c = 95 ∨ c = 97 ∨ c = 104) a0 o.1) {o : (gb_G × Int32)} (h : f_X11_years_143 sh K68 g y2 y3 y4 y5 y6 z0 z1 = some o) : gb_Fr (fun c k => (c = 77 ∧ k = 0) ∨ (c = 77 ∧ k = 1) ∨ (c = 77 ∧ k = 34) ∨ (c = 77 ∧ k = 38) ∨ (c = 77 ∧ k = 39) ∨ (c = 77 ∧ k = 40) ∨ (c = 77 ∧ k = 41) ∨ (c = 77 ∧ k = 42) ∨ (c = 77 ∧ k = 53) ∨ (c = 77 ∧ k = 55) ∨ c = 78 ∨ c = 79 ∨ c = 82 ∨ c = 95 ∨ c = 97 ∨ c = 104) g o.1 := by
  unfold f_X11_years_143 at h
  have Fg : gb_Fr (fun c k => (c = 77 ∧ k = 0) ∨ (c = 77 ∧ k = 1) ∨ (c = 77 ∧ k = 34) ∨ (c = 77 ∧ k = 38) ∨ (c = 77 ∧ k = 39) ∨ (c = 77 ∧ k = 40) ∨ (c = 77 ∧ k = 41) ∨ (c = 77 ∧ k = 42) ∨ (c = 77 ∧ k = 53) ∨ (c = 77 ∧ k = 55) ∨ c = 78 ∨ c = 79 ∨ c = 82 ∨ c = 95 ∨ c = 97 ∨ c = 104) g g := gb_Fr.rf
  obtain ⟨-, h⟩ := gb_ck_e h
  obtain ⟨g28, eg28, h⟩ := gb_let_x h
  have Fg28 := gb_Fr.tr Fg (gb_Fr.pi (Or.inr (Or.inr (Or.inr (Or.inr (Or.inr (Or.inr (Or.inr (Or.inr (Or.inr (Or.inr (Or.inr (Or.inl (rfl))))))))))))) eg28)
  obtain ⟨-, h⟩ := gb_ck_e h
  rcases gb_ite_e h with h | h
  · exact gb_Fr.tr Fg28 (w_X11_years_184 (hK68) h)
  · rcases gb_ite_e h with h | h
    · exact gb_Fr.tr Fg28 (w_X11_years_184 (hK68) h)
    · exact gb_Fr.tr Fg28 (w_X11_years_184 (hK68) h)
set_option maxRecDepth 100000 in
set_option maxHeartbeats 4000000 in
theorem w_X11_years_68 {sh : List gb_Sh}  : ∀ (n : Nat) {g : gb_G} {y2 : Int32} {y3 : Int32} {y4 : Int32} {o : (gb_G × Int32)} (h : f_X11_years_68 sh n g y2 y3 y4 = some o), gb_Fr (fun c k => (c = 77 ∧ k = 0) ∨ (c = 77 ∧ k = 1) ∨ (c = 77 ∧ k = 34) ∨ (c = 77 ∧ k = 38) ∨ (c = 77 ∧ k = 39) ∨ (c = 77 ∧ k = 40) ∨ (c = 77 ∧ k = 41) ∨ (c = 77 ∧ k = 42) ∨ (c = 77 ∧ k = 53) ∨ (c = 77 ∧ k = 55) ∨ c = 78 ∨ c = 79 ∨ c = 82 ∨ c = 95 ∨ c = 97 ∨ c = 104) g o.1 := by
  intro n
  induction n with
  | zero => intro g y2 y3 y4 o h; cases h
  | succ n ih =>
    intro g y2 y3 y4 o h
    rw [f_X11_years_68] at h
    have Fg : gb_Fr (fun c k => (c = 77 ∧ k = 0) ∨ (c = 77 ∧ k = 1) ∨ (c = 77 ∧ k = 34) ∨ (c = 77 ∧ k = 38) ∨ (c = 77 ∧ k = 39) ∨ (c = 77 ∧ k = 40) ∨ (c = 77 ∧ k = 41) ∨ (c = 77 ∧ k = 42) ∨ (c = 77 ∧ k = 53) ∨ (c = 77 ∧ k = 55) ∨ c = 78 ∨ c = 79 ∨ c = 82 ∨ c = 95 ∨ c = 97 ∨ c = 104) g g := gb_Fr.rf
    rcases gb_ite_e h with h | h
    · exact gb_Fr.tr Fg (w_X11_years_222 h)
    · rcases gb_ite_e h with h | h
      · exact gb_Fr.tr Fg (w_X11_years_222 h)
      · obtain ⟨r22, er22, h⟩ := gb_bd_e h
        have Fr22 := gb_Fr.tr Fg (gb_Fr.up (w_X11_draw er22) (fun _ _ hw => Or.inr (Or.inr (Or.inr (Or.inr (Or.inr (Or.inr (Or.inr (Or.inr (Or.inl (hw)))))))))))
        obtain ⟨r24, er24, h⟩ := gb_bd_e h
        have Fr24 := gb_Fr.tr Fr22 (gb_Fr.up (w_X11_draw er24) (fun _ _ hw => Or.inr (Or.inr (Or.inr (Or.inr (Or.inr (Or.inr (Or.inr (Or.inr (Or.inl (hw)))))))))))
        rcases gb_ite_e h with h | h
        · exact gb_Fr.tr Fr24 (w_X11_years_143 (fun hh => ih hh) h)
        · rcases gb_ite_e h with h | h
          · exact gb_Fr.tr Fr24 (w_X11_years_143 (fun hh => ih hh) h)
          · obtain ⟨-, h⟩ := gb_ck_e h
            exact gb_Fr.tr Fr24 (w_X11_years_143 (fun hh => ih hh) h)
set_option maxRecDepth 100000 in
set_option maxHeartbeats 4000000 in
theorem w_X11_years {sh : List gb_Sh} {x1 : Int32} {x2 : Int32} {g : gb_G}  {o : (gb_G × Int32)} (h : f_X11_years sh g x1 x2 = some o) : gb_Fr (fun c k => (c = 77 ∧ k = 0) ∨ (c = 77 ∧ k = 1) ∨ (c = 77 ∧ k = 34) ∨ (c = 77 ∧ k = 38) ∨ (c = 77 ∧ k = 39) ∨ (c = 77 ∧ k = 40) ∨ (c = 77 ∧ k = 41) ∨ (c = 77 ∧ k = 42) ∨ (c = 77 ∧ k = 53) ∨ (c = 77 ∧ k = 55) ∨ c = 78 ∨ c = 79 ∨ c = 82 ∨ c = 95 ∨ c = 97 ∨ c = 104) g o.1 := by
  unfold f_X11_years at h
  have Fg : gb_Fr (fun c k => (c = 77 ∧ k = 0) ∨ (c = 77 ∧ k = 1) ∨ (c = 77 ∧ k = 34) ∨ (c = 77 ∧ k = 38) ∨ (c = 77 ∧ k = 39) ∨ (c = 77 ∧ k = 40) ∨ (c = 77 ∧ k = 41) ∨ (c = 77 ∧ k = 42) ∨ (c = 77 ∧ k = 53) ∨ (c = 77 ∧ k = 55) ∨ c = 78 ∨ c = 79 ∨ c = 82 ∨ c = 95 ∨ c = 97 ∨ c = 104) g g := gb_Fr.rf
  obtain ⟨g1, eg1, h⟩ := gb_let_x h
  have Fg1 := gb_Fr.tr Fg (gb_Fr.pi (Or.inl (⟨rfl, rfl⟩)) eg1)
  obtain ⟨r2, er2, h⟩ := gb_bd_e h
  have Fr2 := gb_Fr.tr Fg1 (gb_Fr.up (w_X11_in er2) (fun _ _ hw => hw.elim))
  rcases gb_ite_e h with h | h
  · exact gb_Fr.tr Fr2 (w_X11_years_29 h)
  · obtain ⟨r6, er6, h⟩ := gb_bd_e h
    have Fr6 := gb_Fr.tr Fr2 (gb_Fr.up (w_X11_in er6) (fun _ _ hw => hw.elim))
    rcases gb_ite_e h with h | h
    · exact gb_Fr.tr Fr6 (w_X11_years_29 h)
    · rcases gb_ite_e h with h | h
      · obtain ⟨r38, er38, h⟩ := gb_bd_e h
        have Fr38 := gb_Fr.tr Fr6 (gb_Fr.up (w_X11_tell er38) (fun _ _ hw => hw.elim (fun h0 => Or.inr (Or.inl (h0))) (fun h0 => Or.inr (Or.inr (Or.inr (Or.inr (Or.inr (Or.inr (Or.inr (Or.inr (Or.inr (Or.inr (Or.inl (h0))))))))))))))
        cases h
        exact Fr38
      · obtain ⟨r8, er8, h⟩ := gb_bd_e h
        have Fr8 := gb_Fr.tr Fr6 (gb_Fr.up (w_X11_keepAll er8) (fun _ _ hw => Or.inr (Or.inr (Or.inr (Or.inr (Or.inr (Or.inr (Or.inr (Or.inr (Or.inr (Or.inr (Or.inr (Or.inr (Or.inl (hw)))))))))))))))
        obtain ⟨g10, eg10, h⟩ := gb_let_x h
        have Fg10 := gb_Fr.tr Fr8 (gb_Fr.pj (Or.inr (Or.inr (Or.inr (Or.inr (Or.inr (Or.inr (Or.inr (Or.inr (Or.inl (⟨rfl, rfl⟩)))))))))) eg10)
        exact gb_Fr.tr Fg10 (w_X11_years_68 _ h)
set_option maxRecDepth 100000 in
set_option maxHeartbeats 4000000 in
theorem w_X11_drawn {sh : List gb_Sh} {x1 : Int32} {x2 : Int32} {g : gb_G}  {o : (gb_G × Int32)} (h : f_X11_drawn sh g x1 x2 = some o) : gb_Fr (fun c k => (c = 77 ∧ k = 0)) g o.1 := by
  unfold f_X11_drawn at h
  have Fg : gb_Fr (fun c k => (c = 77 ∧ k = 0)) g g := gb_Fr.rf
  obtain ⟨g1, eg1, h⟩ := gb_let_x h
  have Fg1 := gb_Fr.tr Fg (gb_Fr.pi (⟨rfl, rfl⟩) eg1)
  obtain ⟨r2, er2, h⟩ := gb_bd_e h
  have Fr2 := gb_Fr.tr Fg1 (gb_Fr.up (w_X11_in er2) (fun _ _ hw => hw.elim))
  rcases gb_ite_e h with h | h
  · cases h
    exact Fr2
  · obtain ⟨r4, er4, h⟩ := gb_bd_e h
    have Fr4 := gb_Fr.tr Fr2 (gb_Fr.up (w_X11_in er4) (fun _ _ hw => hw.elim))
    rcases gb_ite_e h with h | h
    · cases h
      exact Fr4
    · obtain ⟨-, h⟩ := gb_ck_e h
      cases h
      exact Fr4
set_option maxRecDepth 100000 in
set_option maxHeartbeats 4000000 in
theorem w_X11_count {sh : List gb_Sh} {x1 : Int32} {g : gb_G}  {o : (gb_G × Int32)} (h : f_X11_count sh g x1 = some o) : gb_Fr (fun c k => (c = 77 ∧ k = 0)) g o.1 := by
  unfold f_X11_count at h
  have Fg : gb_Fr (fun c k => (c = 77 ∧ k = 0)) g g := gb_Fr.rf
  obtain ⟨g1, eg1, h⟩ := gb_let_x h
  have Fg1 := gb_Fr.tr Fg (gb_Fr.pi (⟨rfl, rfl⟩) eg1)
  rcases gb_ite_e h with h | h
  · cases h
    exact Fg1
  · rcases gb_ite_e h with h | h
    · obtain ⟨r4, er4, h⟩ := gb_bd_e h
      have Fr4 := gb_Fr.tr Fg1 (gb_Fr.up (w_X11_lackingOnes er4) (fun _ _ hw => hw.elim))
      cases h
      exact Fr4
    · rcases gb_ite_e h with h | h
      · cases h
        exact Fg1
      · rcases gb_ite_e h with h | h
        · cases h
          exact Fg1
        · rcases gb_ite_e h with h | h
          · cases h
            exact Fg1
          · rcases gb_ite_e h with h | h
            · cases h
              exact Fg1
            · rcases gb_ite_e h with h | h
              · cases h
                exact Fg1
              · rcases gb_ite_e h with h | h
                · cases h
                  exact Fg1
                · rcases gb_ite_e h with h | h
                  · cases h
                    exact Fg1
                  · rcases gb_ite_e h with h | h
                    · cases h
                      exact Fg1
                    · rcases gb_ite_e h with h | h
                      · cases h
                        exact Fg1
                      · rcases gb_ite_e h with h | h
                        · cases h
                          exact Fg1
                        · rcases gb_ite_e h with h | h
                          · cases h
                            exact Fg1
                          · obtain ⟨r17, er17, h⟩ := gb_bd_e h
                            have Fr17 := gb_Fr.tr Fg1 (gb_Fr.up (w_X11_in er17) (fun _ _ hw => hw.elim))
                            rcases gb_ite_e h with h | h
                            · cases h
                              exact Fr17
                            · obtain ⟨-, h⟩ := gb_ck_e h
                              cases h
                              exact Fr17
set_option maxRecDepth 100000 in
set_option maxHeartbeats 4000000 in
theorem w_X11_status {sh : List gb_Sh} {g : gb_G}  {o : (gb_G × Int32)} (h : f_X11_status sh g = some o) : gb_Fr (fun c k => (c = 77 ∧ k = 0)) g o.1 := by
  unfold f_X11_status at h
  have Fg : gb_Fr (fun c k => (c = 77 ∧ k = 0)) g g := gb_Fr.rf
  obtain ⟨g1, eg1, h⟩ := gb_let_x h
  have Fg1 := gb_Fr.tr Fg (gb_Fr.pi (⟨rfl, rfl⟩) eg1)
  cases h
  exact Fg1
