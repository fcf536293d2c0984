/-! ===== which cells a function may write (on) ===== -/
set_option maxRecDepth 100000 in
set_option maxHeartbeats 4000000 in
theorem w_X11_reckonAll_10 {sh : List gb_Sh}  : ∀ (n : Nat) {g : gb_G} {y2 : Int32} {y3 : Int32} {y4 : Int32} {o : (gb_G)} (h : f_X11_reckonAll_10 sh n g y2 y3 y4 = some o), gb_Fr (fun c k => (c = 77 ∧ k = 38) ∨ (c = 77 ∧ k = 39) ∨ c = 97) g o := by
  intro n
  induction n with
  | zero => intro g y2 y3 y4 o h; cases h
  | succ n ih =>
    intro g y2 y3 y4 o h
    rw [f_X11_reckonAll_10] at h
    have Fg : gb_Fr (fun c k => (c = 77 ∧ k = 38) ∨ (c = 77 ∧ k = 39) ∨ c = 97) g g := gb_Fr.rf
    rcases gb_ite_e h with h | h
    · exact gb_Fr.tr Fg (w_X11_reckonAll_353 h)
    · rcases gb_ite_e h with h | h
      · rcases gb_ite_e h with h | h
        · obtain ⟨-, h⟩ := gb_ck_e h
          exact gb_Fr.tr Fg (w_X11_reckonAll_57 (fun hh => ih hh) h)
        · obtain ⟨-, h⟩ := gb_ck_e h
          exact gb_Fr.tr Fg (w_X11_reckonAll_57 (fun hh => ih hh) h)
      · exact gb_Fr.tr Fg (w_X11_reckonAll_353 h)
set_option maxRecDepth 100000 in
set_option maxHeartbeats 4000000 in
theorem w_X11_reckonAll {sh : List gb_Sh} {x1 : Int32} {x2 : Int32} {g : gb_G}  {o : (gb_G)} (h : f_X11_reckonAll sh g x1 x2 = some o) : gb_Fr (fun c k => (c = 77 ∧ k = 38) ∨ (c = 77 ∧ k = 39) ∨ c = 97) g o := by
  unfold f_X11_reckonAll at h
  have Fg : gb_Fr (fun c k => (c = 77 ∧ k = 38) ∨ (c = 77 ∧ k = 39) ∨ c = 97) g g := gb_Fr.rf
  obtain ⟨g1, eg1, h⟩ := gb_let_x h
  have Fg1 := gb_Fr.tr Fg (gb_Fr.pi (Or.inl (⟨rfl, rfl⟩)) eg1)
  exact gb_Fr.tr Fg1 (w_X11_reckonAll_10 _ h)
set_option maxRecDepth 100000 in
set_option maxHeartbeats 4000000 in
theorem w_X11_isSo_59 {sh : List gb_Sh} {y1 : Int32} {g : gb_G}  {o : (gb_G × Int32)} (h : f_X11_isSo_59 sh g y1 = some o) : gb_Fr (fun c k => (c = 77 ∧ k = 38) ∨ (c = 77 ∧ k = 39) ∨ (c = 77 ∧ k = 40) ∨ c = 97) g o.1 := by
  unfold f_X11_isSo_59 at h
  have Fg : gb_Fr (fun c k => (c = 77 ∧ k = 38) ∨ (c = 77 ∧ k = 39) ∨ (c = 77 ∧ k = 40) ∨ c = 97) g g := gb_Fr.rf
  obtain ⟨-, h⟩ := gb_ck_e h
  rcases gb_ite_e h with h | h
  · cases h
    exact Fg
  · obtain ⟨-, h⟩ := gb_ck_e h
    obtain ⟨-, h⟩ := gb_ck_e h
    obtain ⟨r6, er6, h⟩ := gb_bd_e h
    have Fr6 := gb_Fr.tr Fg (gb_Fr.up (w_X11_reckonAll er6) (fun _ _ hw => hw.elim (fun h0 => Or.inl (h0)) (fun h0 => h0.elim (fun h1 => Or.inr (Or.inl (h1))) (fun h1 => Or.inr (Or.inr (Or.inr (h1)))))))
    obtain ⟨g8, eg8, h⟩ := gb_let_x h
    have Fg8 := gb_Fr.tr Fr6 (gb_Fr.pj (Or.inr (Or.inr (Or.inl (⟨rfl, rfl⟩)))) eg8)
    rcases gb_ite_e h with h | h
    · cases h
      exact Fg8
    · cases h
      exact Fg8
set_option maxRecDepth 100000 in
set_option maxHeartbeats 4000000 in
theorem w_X11_isSo {sh : List gb_Sh} {x1 : Int32} {g : gb_G}  {o : (gb_G × Int32)} (h : f_X11_isSo sh g x1 = some o) : gb_Fr (fun c k => (c = 77 ∧ k = 38) ∨ (c = 77 ∧ k = 39) ∨ (c = 77 ∧ k = 40) ∨ c = 97) g o.1 := by
  unfold f_X11_isSo at h
  have Fg : gb_Fr (fun c k => (c = 77 ∧ k = 38) ∨ (c = 77 ∧ k = 39) ∨ (c = 77 ∧ k = 40) ∨ c = 97) g g := gb_Fr.rf
  obtain ⟨-, h⟩ := gb_ck_e h
  obtain ⟨-, h⟩ := gb_ck_e h
  rcases gb_ite_e h with h | h
  · exact gb_Fr.tr Fg (w_X11_isSo_59 h)
  · obtain ⟨-, h⟩ := gb_ck_e h
    obtain ⟨-, h⟩ := gb_ck_e h
    obtain ⟨r11, er11, h⟩ := gb_bd_e h
    have Fr11 := gb_Fr.tr Fg (gb_Fr.up (w_X11_reckonAll er11) (fun _ _ hw => hw.elim (fun h0 => Or.inl (h0)) (fun h0 => h0.elim (fun h1 => Or.inr (Or.inl (h1))) (fun h1 => Or.inr (Or.inr (Or.inr (h1)))))))
    rcases gb_ite_e h with h | h
    · rcases gb_ite_e h with h | h
      · cases h
        exact Fr11
      · exact gb_Fr.tr Fr11 (w_X11_isSo_59 h)
    · cases h
      exact Fr11
set_option maxRecDepth 100000 in
set_option maxHeartbeats 4000000 in
theorem w_X11_tells_235 {sh : List gb_Sh} {K170 : gb_G → Int32 → Int64 → Int32 → Option (gb_G × Int64)} {y1 : Int32} {y5 : Int64} {y7 : Int32} {g : gb_G} (hK170 : ∀ {a0 : gb_G} {a1 : Int32} {a2 : Int64} {a3 : Int32} {o : (gb_G × Int64)}, K170 a0 a1 a2 a3 = some o → gb_Fr (fun c k => (c = 77 ∧ k = 34) ∨ (c = 77 ∧ k = 38) ∨ (c = 77 ∧ k = 39) ∨ (c = 77 ∧ k = 40) ∨ c = 95 ∨ c = 97) a0 o.1) {o : (gb_G × Int64)} (h : f_X11_tells_235 sh K170 g y1 y5 y7 = some o) : gb_Fr (fun c k => (c = 77 ∧ k = 34) ∨ (c = 77 ∧ k = 38) ∨ (c = 77 ∧ k = 39) ∨ (c = 77 ∧ k = 40) ∨ c = 95 ∨ c = 97) g o.1 := by
  unfold f_X11_tells_235 at h
  have Fg : gb_Fr (fun c k => (c = 77 ∧ k = 34) ∨ (c = 77 ∧ k = 38) ∨ (c = 77 ∧ k = 39) ∨ (c = 77 ∧ k = 40) ∨ c = 95 ∨ c = 97) g g := gb_Fr.rf
  exact gb_Fr.tr Fg (hK170 h)
set_option maxRecDepth 100000 in
set_option maxHeartbeats 4000000 in
theorem w_X11_tells_233 {sh : List gb_Sh} {K235 : gb_G → Int32 → Int64 → Int32 → Option (gb_G × Int64)} {y1 : Int32} {y7 : Int32} {z0 : Int64} {g : gb_G} (hK235 : ∀ {a0 : gb_G} {a1 : Int32} {a2 : Int64} {a3 : Int32} {o : (gb_G × Int64)}, K235 a0 a1 a2 a3 = some o → gb_Fr (fun c k => (c = 77 ∧ k = 34) ∨ (c = 77 ∧ k = 38) ∨ (c = 77 ∧ k = 39) ∨ (c = 77 ∧ k = 40) ∨ c = 95 ∨ c = 97) a0 o.1) {o : (gb_G × Int64)} (h : f_X11_tells_233 sh K235 g y1 y7 z0 = some o) : gb_Fr (fun c k => (c = 77 ∧ k = 34) ∨ (c = 77 ∧ k = 38) ∨ (c = 77 ∧ k = 39) ∨ (c = 77 ∧ k = 40) ∨ c = 95 ∨ c = 97) g o.1 := by
  unfold f_X11_tells_233 at h
  have Fg : gb_Fr (fun c k => (c = 77 ∧ k = 34) ∨ (c = 77 ∧ k = 38) ∨ (c = 77 ∧ k = 39) ∨ (c = 77 ∧ k = 40) ∨ c = 95 ∨ c = 97) g g := gb_Fr.rf
  exact gb_Fr.tr Fg (hK235 h)
set_option maxRecDepth 100000 in
set_option maxHeartbeats 4000000 in
theorem w_X11_tells_170 {sh : List gb_Sh}  : ∀ (n : Nat) {g : gb_G} {y1 : Int32} {y5 : Int64} {y7 : Int32} {o : (gb_G × Int64)} (h : f_X11_tells_170 sh n g y1 y5 y7 = some o), gb_Fr (fun c k => (c = 77 ∧ k = 34) ∨ (c = 77 ∧ k = 38) ∨ (c = 77 ∧ k = 39) ∨ (c = 77 ∧ k = 40) ∨ c = 95 ∨ c = 97) g o.1 := by
  intro n
  induction n with
  | zero => intro g y1 y5 y7 o h; cases h
  | succ n ih =>
    intro g y1 y5 y7 o h
    rw [f_X11_tells_170] at h
    have Fg : gb_Fr (fun c k => (c = 77 ∧ k = 34) ∨ (c = 77 ∧ k = 38) ∨ (c = 77 ∧ k = 39) ∨ (c = 77 ∧ k = 40) ∨ c = 95 ∨ c = 97) g g := gb_Fr.rf
    obtain ⟨-, h⟩ := gb_ck_e h
    rcases gb_ite_e h with h | h
    · cases h
      exact Fg
    · obtain ⟨-, h⟩ := gb_ck_e h
      rcases gb_ite_e h with h | h
      · obtain ⟨r19, er19, h⟩ := gb_bd_e h
        have Fr19 := gb_Fr.tr Fg (gb_Fr.up (w_X11_isSo er19) (fun _ _ hw => hw.elim (fun h0 => Or.inr (Or.inl (h0))) (fun h0 => h0.elim (fun h1 => Or.inr (Or.inr (Or.inl (h1)))) (fun h1 => h1.elim (fun h2 => Or.inr (Or.inr (Or.inr (Or.inl (h2))))) (fun h2 => Or.inr (Or.inr (Or.inr (Or.inr (Or.inr (h2))))))))))
        rcases gb_ite_e h with h | h
        · exact gb_Fr.tr Fr19 (w_X11_tells_235 (fun hh => ih hh) h)
        · rcases gb_ite_e h with h | h
          · exact gb_Fr.tr Fr19 (w_X11_tells_233 (fun hh => w_X11_tells_235 (fun hh => ih hh) hh) h)
          · exact gb_Fr.tr Fr19 (w_X11_tells_233 (fun hh => w_X11_tells_235 (fun hh => ih hh) hh) h)
      · exact gb_Fr.tr Fg (w_X11_tells_235 (fun hh => ih hh) h)
set_option maxRecDepth 100000 in
set_option maxHeartbeats 4000000 in
theorem w_X11_tells {sh : List gb_Sh} {x1 : Int32} {x2 : Int32} {x3 : Int64} {g : gb_G}  {o : (gb_G × Int64)} (h : f_X11_tells sh g x1 x2 x3 = some o) : gb_Fr (fun c k => (c = 77 ∧ k = 34) ∨ (c = 77 ∧ k = 38) ∨ (c = 77 ∧ k = 39) ∨ (c = 77 ∧ k = 40) ∨ c = 95 ∨ c = 97) g o.1 := by
  unfold f_X11_tells at h
  have Fg : gb_Fr (fun c k => (c = 77 ∧ k = 34) ∨ (c = 77 ∧ k = 38) ∨ (c = 77 ∧ k = 39) ∨ (c = 77 ∧ k = 40) ∨ c = 95 ∨ c = 97) g g := gb_Fr.rf
  rcases gb_ite_e h with h | h
  · cases h
    exact Fg
  · obtain ⟨g1, eg1, h⟩ := gb_let_x h
    have Fg1 := gb_Fr.tr Fg (gb_Fr.pi (Or.inl (⟨rfl, rfl⟩)) eg1)
    obtain ⟨g2, eg2, h⟩ := gb_let_x h
    have Fg2 := gb_Fr.tr Fg1 (gb_Fr.pj (Or.inr (Or.inr (Or.inr (Or.inr (Or.inl (rfl)))))) eg2)
    obtain ⟨-, h⟩ := gb_ck_e h
    obtain ⟨g4, eg4, h⟩ := gb_let_x h
    have Fg4 := gb_Fr.tr Fg2 (gb_Fr.pj (Or.inr (Or.inr (Or.inr (Or.inr (Or.inl (rfl)))))) eg4)
    obtain ⟨-, h⟩ := gb_ck_e h
    obtain ⟨g6, eg6, h⟩ := gb_let_x h
    have Fg6 := gb_Fr.tr Fg4 (gb_Fr.pj (Or.inr (Or.inr (Or.inr (Or.inr (Or.inl (rfl)))))) eg6)
    obtain ⟨-, h⟩ := gb_ck_e h
    obtain ⟨g8, eg8, h⟩ := gb_let_x h
    have Fg8 := gb_Fr.tr Fg6 (gb_Fr.pj (Or.inr (Or.inr (Or.inr (Or.inr (Or.inl (rfl)))))) eg8)
    obtain ⟨-, h⟩ := gb_ck_e h
    obtain ⟨g10, eg10, h⟩ := gb_let_x h
    have Fg10 := gb_Fr.tr Fg8 (gb_Fr.pj (Or.inr (Or.inr (Or.inr (Or.inr (Or.inl (rfl)))))) eg10)
    obtain ⟨-, h⟩ := gb_ck_e h
    obtain ⟨g12, eg12, h⟩ := gb_let_x h
    have Fg12 := gb_Fr.tr Fg10 (gb_Fr.pj (Or.inr (Or.inr (Or.inr (Or.inr (Or.inl (rfl)))))) eg12)
    obtain ⟨-, h⟩ := gb_ck_e h
    obtain ⟨g14, eg14, h⟩ := gb_let_x h
    have Fg14 := gb_Fr.tr Fg12 (gb_Fr.pj (Or.inr (Or.inr (Or.inr (Or.inr (Or.inl (rfl)))))) eg14)
    obtain ⟨g15, eg15, h⟩ := gb_let_x h
    have Fg15 := gb_Fr.tr Fg14 (gb_Fr.pj (Or.inr (Or.inr (Or.inr (Or.inr (Or.inl (rfl)))))) eg15)
    obtain ⟨g16, eg16, h⟩ := gb_let_x h
    have Fg16 := gb_Fr.tr Fg15 (gb_Fr.pj (Or.inr (Or.inr (Or.inr (Or.inr (Or.inl (rfl)))))) eg16)
    exact gb_Fr.tr Fg16 (w_X11_tells_170 _ h)
set_option maxRecDepth 100000 in
set_option maxHeartbeats 4000000 in
theorem w_X11_countsOf_31 {sh : List gb_Sh} {y1 : Int32} {z0 : Int32} {g : gb_G}  {o : (gb_G × Int32)} (h : f_X11_countsOf_31 sh g y1 z0 = some o) : gb_Fr (fun c k => (c = 77 ∧ k = 34) ∨ (c = 77 ∧ k = 38) ∨ (c = 77 ∧ k = 39) ∨ (c = 77 ∧ k = 40) ∨ c = 95 ∨ c = 97) g o.1 := by
  unfold f_X11_countsOf_31 at h
  have Fg : gb_Fr (fun c k => (c = 77 ∧ k = 34) ∨ (c = 77 ∧ k = 38) ∨ (c = 77 ∧ k = 39) ∨ (c = 77 ∧ k = 40) ∨ c = 95 ∨ c = 97) g g := gb_Fr.rf
  rcases gb_ite_e h with h | h
  · obtain ⟨-, h⟩ := gb_ck_e h
    obtain ⟨r3, er3, h⟩ := gb_bd_e h
    have Fr3 := gb_Fr.tr Fg (gb_Fr.up (w_X11_tells er3) (fun _ _ hw => hw.elim (fun h0 => Or.inl (h0)) (fun h0 => h0.elim (fun h1 => Or.inr (Or.inl (h1))) (fun h1 => h1.elim (fun h2 => Or.inr (Or.inr (Or.inl (h2)))) (fun h2 => h2.elim (fun h3 => Or.inr (Or.inr (Or.inr (Or.inl (h3))))) (fun h3 => h3.elim (fun h4 => Or.inr (Or.inr (Or.inr (Or.inr (Or.inl (h4)))))) (fun h4 => Or.inr (Or.inr (Or.inr (Or.inr (Or.inr (h4))))))))))))
    obtain ⟨r5, er5, h⟩ := gb_bd_e h
    have Fr5 := gb_Fr.tr Fr3 (gb_Fr.up (w_X11_within er5) (fun _ _ hw => hw.elim))
    cases h
    exact Fr5
  · cases h
    exact Fg
set_option maxRecDepth 100000 in
set_option maxHeartbeats 4000000 in
theorem w_X11_countsOf {sh : List gb_Sh} {x1 : Int32} {g : gb_G}  {o : (gb_G × Int32)} (h : f_X11_countsOf sh g x1 = some o) : gb_Fr (fun c k => (c = 77 ∧ k = 34) ∨ (c = 77 ∧ k = 38) ∨ (c = 77 ∧ k = 39) ∨ (c = 77 ∧ k = 40) ∨ c = 95 ∨ c = 97) g o.1 := by
  unfold f_X11_countsOf at h
  have Fg : gb_Fr (fun c k => (c = 77 ∧ k = 34) ∨ (c = 77 ∧ k = 38) ∨ (c = 77 ∧ k = 39) ∨ (c = 77 ∧ k = 40) ∨ c = 95 ∨ c = 97) g g := gb_Fr.rf
  obtain ⟨-, h⟩ := gb_ck_e h
  rcases gb_ite_e h with h | h
  · obtain ⟨-, h⟩ := gb_ck_e h
    rcases gb_ite_e h with h | h
    · exact gb_Fr.tr Fg (w_X11_countsOf_31 h)
    · exact gb_Fr.tr Fg (w_X11_countsOf_31 h)
  · exact gb_Fr.tr Fg (w_X11_countsOf_31 h)
set_option maxRecDepth 100000 in
set_option maxHeartbeats 4000000 in
theorem w_X11_gladsOf {sh : List gb_Sh} {x1 : Int32} {g : gb_G}  {o : (gb_G × Int32)} (h : f_X11_gladsOf sh g x1 = some o) : gb_Fr (fun c k => (c = 77 ∧ k = 34) ∨ (c = 77 ∧ k = 38) ∨ (c = 77 ∧ k = 39) ∨ (c = 77 ∧ k = 40) ∨ c = 95 ∨ c = 97) g o.1 := by
  unfold f_X11_gladsOf at h
  have Fg : gb_Fr (fun c k => (c = 77 ∧ k = 34) ∨ (c = 77 ∧ k = 38) ∨ (c = 77 ∧ k = 39) ∨ (c = 77 ∧ k = 40) ∨ c = 95 ∨ c = 97) g g := gb_Fr.rf
  obtain ⟨-, h⟩ := gb_ck_e h
  obtain ⟨r2, er2, h⟩ := gb_bd_e h
  have Fr2 := gb_Fr.tr Fg (gb_Fr.up (w_X11_tells er2) (fun _ _ hw => hw.elim (fun h0 => Or.inl (h0)) (fun h0 => h0.elim (fun h1 => Or.inr (Or.inl (h1))) (fun h1 => h1.elim (fun h2 => Or.inr (Or.inr (Or.inl (h2)))) (fun h2 => h2.elim (fun h3 => Or.inr (Or.inr (Or.inr (Or.inl (h3))))) (fun h3 => h3.elim (fun h4 => Or.inr (Or.inr (Or.inr (Or.inr (Or.inl (h4)))))) (fun h4 => Or.inr (Or.inr (Or.inr (Or.inr (Or.inr (h4))))))))))))
  obtain ⟨r4, er4, h⟩ := gb_bd_e h
  have Fr4 := gb_Fr.tr Fr2 (gb_Fr.up (w_X11_within er4) (fun _ _ hw => hw.elim))
  cases h
  exact Fr4
set_option maxRecDepth 100000 in
set_option maxHeartbeats 4000000 in
theorem w_X11_isBarred {sh : List gb_Sh} {x1 : Int32} {g : gb_G}  {o : (gb_G × Int32)} (h : f_X11_isBarred sh g x1 = some o) : gb_Fr (fun c k => (c = 77 ∧ k = 34) ∨ (c = 77 ∧ k = 38) ∨ (c = 77 ∧ k = 39) ∨ (c = 77 ∧ k = 40) ∨ c = 95 ∨ c = 97) g o.1 := by
  unfold f_X11_isBarred at h
  have Fg : gb_Fr (fun c k => (c = 77 ∧ k = 34) ∨ (c = 77 ∧ k = 38) ∨ (c = 77 ∧ k = 39) ∨ (c = 77 ∧ k = 40) ∨ c = 95 ∨ c = 97) g g := gb_Fr.rf
  obtain ⟨r1, er1, h⟩ := gb_bd_e h
  have Fr1 := gb_Fr.tr Fg (gb_Fr.up (w_X11_tells er1) (fun _ _ hw => hw.elim (fun h0 => Or.inl (h0)) (fun h0 => h0.elim (fun h1 => Or.inr (Or.inl (h1))) (fun h1 => h1.elim (fun h2 => Or.inr (Or.inr (Or.inl (h2)))) (fun h2 => h2.elim (fun h3 => Or.inr (Or.inr (Or.inr (Or.inl (h3))))) (fun h3 => h3.elim (fun h4 => Or.inr (Or.inr (Or.inr (Or.inr (Or.inl (h4)))))) (fun h4 => Or.inr (Or.inr (Or.inr (Or.inr (Or.inr (h4))))))))))))
  rcases gb_ite_e h with h | h
  · cases h
    exact Fr1
  · cases h
    exact Fr1
set_option maxRecDepth 100000 in
set_option maxHeartbeats 4000000 in
theorem w_X11_movesOf {sh : List gb_Sh} {x1 : Int32} {g : gb_G}  {o : (gb_G × Int32)} (h : f_X11_movesOf sh g x1 = some o) : gb_Fr (fun c k => (c = 77 ∧ k = 34) ∨ (c = 77 ∧ k = 38) ∨ (c = 77 ∧ k = 39) ∨ (c = 77 ∧ k = 40) ∨ c = 95 ∨ c = 97) g o.1 := by
  unfold f_X11_movesOf at h
  have Fg : gb_Fr (fun c k => (c = 77 ∧ k = 34) ∨ (c = 77 ∧ k = 38) ∨ (c = 77 ∧ k = 39) ∨ (c = 77 ∧ k = 40) ∨ c = 95 ∨ c = 97) g g := gb_Fr.rf
  obtain ⟨r1, er1, h⟩ := gb_bd_e h
  have Fr1 := gb_Fr.tr Fg (gb_Fr.up (w_X11_tells er1) (fun _ _ hw => hw.elim (fun h0 => Or.inl (h0)) (fun h0 => h0.elim (fun h1 => Or.inr (Or.inl (h1))) (fun h1 => h1.elim (fun h2 => Or.inr (Or.inr (Or.inl (h2)))) (fun h2 => h2.elim (fun h3 => Or.inr (Or.inr (Or.inr (Or.inl (h3))))) (fun h3 => h3.elim (fun h4 => Or.inr (Or.inr (Or.inr (Or.inr (Or.inl (h4)))))) (fun h4 => Or.inr (Or.inr (Or.inr (Or.inr (Or.inr (h4))))))))))))
  obtain ⟨r3, er3, h⟩ := gb_bd_e h
  have Fr3 := gb_Fr.tr Fr1 (gb_Fr.up (w_X11_within er3) (fun _ _ hw => hw.elim))
  cases h
  exact Fr3
set_option maxRecDepth 100000 in
set_option maxHeartbeats 4000000 in
theorem w_X11_asks {sh : List gb_Sh} {x1 : Int32} {x2 : Int32} {g : gb_G}  {o : (gb_G × Int32)} (h : f_X11_asks sh g x1 x2 = some o) : gb_Fr (fun c k => (c = 77 ∧ k = 0) ∨ (c = 77 ∧ k = 34) ∨ (c = 77 ∧ k = 38) ∨ (c = 77 ∧ k = 39) ∨ (c = 77 ∧ k = 40) ∨ c = 95 ∨ c = 97) g o.1 := by
  unfold f_X11_asks at h
  have Fg : gb_Fr (fun c k => (c = 77 ∧ k = 0) ∨ (c = 77 ∧ k = 34) ∨ (c = 77 ∧ k = 38) ∨ (c = 77 ∧ k = 39) ∨ (c = 77 ∧ k = 40) ∨ c = 95 ∨ c = 97) g g := gb_Fr.rf
  obtain ⟨g1, eg1, h⟩ := gb_let_x h
  have Fg1 := gb_Fr.tr Fg (gb_Fr.pi (Or.inl (⟨rfl, rfl⟩)) eg1)
  obtain ⟨r2, er2, h⟩ := gb_bd_e h
  have Fr2 := gb_Fr.tr Fg1 (gb_Fr.up (w_X11_isGood er2) (fun _ _ hw => hw.elim))
  rcases gb_ite_e h with h | h
  · cases h
    exact Fr2
  · rcases gb_ite_e h with h | h
    · obtain ⟨r5, er5, h⟩ := gb_bd_e h
      have Fr5 := gb_Fr.tr Fr2 (gb_Fr.up (w_X11_movesOf er5) (fun _ _ hw => hw.elim (fun h0 => Or.inr (Or.inl (h0))) (fun h0 => h0.elim (fun h1 => Or.inr (Or.inr (Or.inl (h1)))) (fun h1 => h1.elim (fun h2 => Or.inr (Or.inr (Or.inr (Or.inl (h2))))) (fun h2 => h2.elim (fun h3 => Or.inr (Or.inr (Or.inr (Or.inr (Or.inl (h3)))))) (fun h3 => h3.elim (fun h4 => Or.inr (Or.inr (Or.inr (Or.inr (Or.inr (Or.inl (h4))))))) (fun h4 => Or.inr (Or.inr (Or.inr (Or.inr (Or.inr (Or.inr (h4)))))))))))))
      cases h
      exact Fr5
    · rcases gb_ite_e h with h | h
      · obtain ⟨r8, er8, h⟩ := gb_bd_e h
        have Fr8 := gb_Fr.tr Fr2 (gb_Fr.up (w_X11_countsOf er8) (fun _ _ hw => hw.elim (fun h0 => Or.inr (Or.inl (h0))) (fun h0 => h0.elim (fun h1 => Or.inr (Or.inr (Or.inl (h1)))) (fun h1 => h1.elim (fun h2 => Or.inr (Or.inr (Or.inr (Or.inl (h2))))) (fun h2 => h2.elim (fun h3 => Or.inr (Or.inr (Or.inr (Or.inr (Or.inl (h3)))))) (fun h3 => h3.elim (fun h4 => Or.inr (Or.inr (Or.inr (Or.inr (Or.inr (Or.inl (h4))))))) (fun h4 => Or.inr (Or.inr (Or.inr (Or.inr (Or.inr (Or.inr (h4)))))))))))))
        cases h
        exact Fr8
      · rcases gb_ite_e h with h | h
        · obtain ⟨r11, er11, h⟩ := gb_bd_e h
          have Fr11 := gb_Fr.tr Fr2 (gb_Fr.up (w_X11_gladsOf er11) (fun _ _ hw => hw.elim (fun h0 => Or.inr (Or.inl (h0))) (fun h0 => h0.elim (fun h1 => Or.inr (Or.inr (Or.inl (h1)))) (fun h1 => h1.elim (fun h2 => Or.inr (Or.inr (Or.inr (Or.inl (h2))))) (fun h2 => h2.elim (fun h3 => Or.inr (Or.inr (Or.inr (Or.inr (Or.inl (h3)))))) (fun h3 => h3.elim (fun h4 => Or.inr (Or.inr (Or.inr (Or.inr (Or.inr (Or.inl (h4))))))) (fun h4 => Or.inr (Or.inr (Or.inr (Or.inr (Or.inr (Or.inr (h4)))))))))))))
          cases h
          exact Fr11
        · rcases gb_ite_e h with h | h
          · obtain ⟨r14, er14, h⟩ := gb_bd_e h
            have Fr14 := gb_Fr.tr Fr2 (gb_Fr.up (w_X11_isBarred er14) (fun _ _ hw => hw.elim (fun h0 => Or.inr (Or.inl (h0))) (fun h0 => h0.elim (fun h1 => Or.inr (Or.inr (Or.inl (h1)))) (fun h1 => h1.elim (fun h2 => Or.inr (Or.inr (Or.inr (Or.inl (h2))))) (fun h2 => h2.elim (fun h3 => Or.inr (Or.inr (Or.inr (Or.inr (Or.inl (h3)))))) (fun h3 => h3.elim (fun h4 => Or.inr (Or.inr (Or.inr (Or.inr (Or.inr (Or.inl (h4))))))) (fun h4 => Or.inr (Or.inr (Or.inr (Or.inr (Or.inr (Or.inr (h4)))))))))))))
            rcases gb_ite_e h with h | h
            · cases h
              exact Fr14
            · cases h
              exact Fr14
          · cases h
            exact Fr2
set_option maxRecDepth 100000 in
set_option maxHeartbeats 4000000 in
theorem w_X11_stand_29 {sh : List gb_Sh} {y1 : Int32} {y2 : Int32} {g : gb_G}  {o : (gb_G × Int32)} (h : f_X11_stand_29 sh g y1 y2 = some o) : gb_Fr (fun c k => (c = 77 ∧ k = 0) ∨ (c = 77 ∧ k = 1) ∨ (c = 77 ∧ k = 8) ∨ c = 78 ∨ c = 79) g o.1 := by
  unfold f_X11_stand_29 at h
  have Fg : gb_Fr (fun c k => (c = 77 ∧ k = 0) ∨ (c = 77 ∧ k = 1) ∨ (c = 77 ∧ k = 8) ∨ c = 78 ∨ c = 79) g g := gb_Fr.rf
  obtain ⟨r2, er2, h⟩ := gb_bd_e h
  have Fr2 := gb_Fr.tr Fg (gb_Fr.up (w_X11_isGood er2) (fun _ _ hw => hw.elim))
  rcases gb_ite_e h with h | h
  · obtain ⟨r8, er8, h⟩ := gb_bd_e h
    have Fr8 := gb_Fr.tr Fr2 (gb_Fr.up (w_X11_tell er8) (fun _ _ hw => hw.elim (fun h0 => Or.inr (Or.inl (h0))) (fun h0 => Or.inr (Or.inr (Or.inr (Or.inl (h0)))))))
    cases h
    exact Fr8
  · obtain ⟨-, h⟩ := gb_ck_e h
    obtain ⟨g5, eg5, h⟩ := gb_let_x h
    have Fg5 := gb_Fr.tr Fr2 (gb_Fr.pi (Or.inr (Or.inr (Or.inr (Or.inr (rfl))))) eg5)
    obtain ⟨r6, er6, h⟩ := gb_bd_e h
    have Fr6 := gb_Fr.tr Fg5 (gb_Fr.up (w_X11_settled er6) (fun _ _ hw => hw.elim (fun h0 => Or.inr (Or.inl (h0))) (fun h0 => h0.elim (fun h1 => Or.inr (Or.inr (Or.inl (h1)))) (fun h1 => Or.inr (Or.inr (Or.inr (Or.inl (h1))))))))
    cases h
    exact Fr6
set_option maxRecDepth 100000 in
set_option maxHeartbeats 4000000 in
theorem w_X11_stand_23 {sh : List gb_Sh} {g : gb_G}  {o : (gb_G × Int32)} (h : f_X11_stand_23 sh g = some o) : gb_Fr (fun c k => (c = 77 ∧ k = 0) ∨ (c = 77 ∧ k = 1) ∨ (c = 77 ∧ k = 8) ∨ c = 78 ∨ c = 79) g o.1 := by
  unfold f_X11_stand_23 at h
  have Fg : gb_Fr (fun c k => (c = 77 ∧ k = 0) ∨ (c = 77 ∧ k = 1) ∨ (c = 77 ∧ k = 8) ∨ c = 78 ∨ c = 79) g g := gb_Fr.rf
  obtain ⟨r12, er12, h⟩ := gb_bd_e h
  have Fr12 := gb_Fr.tr Fg (gb_Fr.up (w_X11_tell er12) (fun _ _ hw => hw.elim (fun h0 => Or.inr (Or.inl (h0))) (fun h0 => Or.inr (Or.inr (Or.inr (Or.inl (h0)))))))
  cases h
  exact Fr12
set_option maxRecDepth 100000 in
set_option maxHeartbeats 4000000 in
theorem w_X11_stand {sh : List gb_Sh} {x1 : Int32} {x2 : Int32} {g : gb_G}  {o : (gb_G × Int32)} (h : f_X11_stand sh g x1 x2 = some o) : gb_Fr (fun c k => (c = 77 ∧ k = 0) ∨ (c = 77 ∧ k = 1) ∨ (c = 77 ∧ k = 8) ∨ c = 78 ∨ c = 79) g o.1 := by
  unfold f_X11_stand at h
  have Fg : gb_Fr (fun c k => (c = 77 ∧ k = 0) ∨ (c = 77 ∧ k = 1) ∨ (c = 77 ∧ k = 8) ∨ c = 78 ∨ c = 79) g g := gb_Fr.rf
  obtain ⟨g1, eg1, h⟩ := gb_let_x h
  have Fg1 := gb_Fr.tr Fg (gb_Fr.pi (Or.inl (⟨rfl, rfl⟩)) eg1)
  rcases gb_ite_e h with h | h
  · exact gb_Fr.tr Fg1 (w_X11_stand_29 h)
  · obtain ⟨r10, er10, h⟩ := gb_bd_e h
    have Fr10 := gb_Fr.tr Fg1 (gb_Fr.up (w_X11_isGood er10) (fun _ _ hw => hw.elim))
    rcases gb_ite_e h with h | h
    · exact gb_Fr.tr Fr10 (w_X11_stand_23 h)
    · rcases gb_ite_e h with h | h
      · exact gb_Fr.tr Fr10 (w_X11_stand_23 h)
      · exact gb_Fr.tr Fr10 (w_X11_stand_29 h)
set_option maxRecDepth 100000 in
set_option maxHeartbeats 4000000 in
theorem w_X11_person_26 {sh : List gb_Sh}  : ∀ (n : Nat) {g : gb_G} {y1 : Int32} {y2 : Int32} {o : (gb_G × Int32)} (h : f_X11_person_26 sh n g y1 y2 = some o), gb_Fr (fun c k => (c = 77 ∧ k = 0) ∨ (c = 77 ∧ k = 1) ∨ c = 78 ∨ c = 79) g o.1 := by
  intro n
  induction n with
  | zero => intro g y1 y2 o h; cases h
  | succ n ih =>
    intro g y1 y2 o h
    rw [f_X11_person_26] at h
    have Fg : gb_Fr (fun c k => (c = 77 ∧ k = 0) ∨ (c = 77 ∧ k = 1) ∨ c = 78 ∨ c = 79) g g := gb_Fr.rf
    rcases gb_ite_e h with h | h
    · obtain ⟨g2, eg2, h⟩ := gb_let_x h
      have Fg2 := gb_Fr.tr Fg (gb_Fr.pi (Or.inr (Or.inr (Or.inr (rfl)))) eg2)
      obtain ⟨r3, er3, h⟩ := gb_bd_e h
      have Fr3 := gb_Fr.tr Fg2 (gb_Fr.up (w_X11_tell er3) (fun _ _ hw => hw.elim (fun h0 => Or.inr (Or.inl (h0))) (fun h0 => Or.inr (Or.inr (Or.inl (h0))))))
      cases h
      exact Fr3
    · obtain ⟨-, h⟩ := gb_ck_e h
      obtain ⟨g6, eg6, h⟩ := gb_let_x h
      have Fg6 := gb_Fr.tr Fg (gb_Fr.pi (Or.inr (Or.inr (Or.inr (rfl)))) eg6)
      exact gb_Fr.tr Fg6 (ih h)
set_option maxRecDepth 100000 in
set_option maxHeartbeats 4000000 in
theorem w_X11_person {sh : List gb_Sh} {g : gb_G}  {o : (gb_G × Int32)} (h : f_X11_person sh g = some o) : gb_Fr (fun c k => (c = 77 ∧ k = 0) ∨ (c = 77 ∧ k = 1) ∨ c = 78 ∨ c = 79) g o.1 := by
  unfold f_X11_person at h
  have Fg : gb_Fr (fun c k => (c = 77 ∧ k = 0) ∨ (c = 77 ∧ k = 1) ∨ c = 78 ∨ c = 79) g g := gb_Fr.rf
  obtain ⟨g1, eg1, h⟩ := gb_let_x h
  have Fg1 := gb_Fr.tr Fg (gb_Fr.pi (Or.inl (⟨rfl, rfl⟩)) eg1)
  rcases gb_ite_e h with h | h
  · obtain ⟨r7, er7, h⟩ := gb_bd_e h
    have Fr7 := gb_Fr.tr Fg1 (gb_Fr.up (w_X11_tell er7) (fun _ _ hw => hw.elim (fun h0 => Or.inr (Or.inl (h0))) (fun h0 => Or.inr (Or.inr (Or.inl (h0))))))
    cases h
    exact Fr7
  · exact gb_Fr.tr Fg1 (w_X11_person_26 _ h)
set_option maxRecDepth 100000 in
set_option maxHeartbeats 4000000 in
theorem w_X11_own_56 {sh : List gb_Sh} {g : gb_G}  {o : (gb_G × Int32)} (h : f_X11_own_56 sh g = some o) : gb_Fr (fun c k => (c = 77 ∧ k = 0) ∨ (c = 77 ∧ k = 1) ∨ c = 78 ∨ c = 79) g o.1 := by
  unfold f_X11_own_56 at h
  have Fg : gb_Fr (fun c k => (c = 77 ∧ k = 0) ∨ (c = 77 ∧ k = 1) ∨ c = 78 ∨ c = 79) g g := gb_Fr.rf
  obtain ⟨r6, er6, h⟩ := gb_bd_e h
  have Fr6 := gb_Fr.tr Fg (gb_Fr.up (w_X11_tell er6) (fun _ _ hw => hw.elim (fun h0 => Or.inr (Or.inl (h0))) (fun h0 => Or.inr (Or.inr (Or.inl (h0))))))
  cases h
  exact Fr6
set_option maxRecDepth 100000 in
set_option maxHeartbeats 4000000 in
theorem w_X11_own {sh : List gb_Sh} {x1 : Int32} {x2 : Int32} {x3 : Int32} {g : gb_G}  {o : (gb_G × Int32)} (h : f_X11_own sh g x1 x2 x3 = some o) : gb_Fr (fun c k => (c = 77 ∧ k = 0) ∨ (c = 77 ∧ k = 1) ∨ c = 78 ∨ c = 79) g o.1 := by
  unfold f_X11_own at h
  have Fg : gb_Fr (fun c k => (c = 77 ∧ k = 0) ∨ (c = 77 ∧ k = 1) ∨ c = 78 ∨ c = 79) g g := gb_Fr.rf
  obtain ⟨g1, eg1, h⟩ := gb_let_x h
  have Fg1 := gb_Fr.tr Fg (gb_Fr.pi (Or.inl (⟨rfl, rfl⟩)) eg1)
  obtain ⟨r2, er2, h⟩ := gb_bd_e h
  have Fr2 := gb_Fr.tr Fg1 (gb_Fr.up (w_X11_in er2) (fun _ _ hw => hw.elim))
  rcases gb_ite_e h with h | h
  · obtain ⟨r12, er12, h⟩ := gb_bd_e h
    have Fr12 := gb_Fr.tr Fr2 (gb_Fr.up (w_X11_tell er12) (fun _ _ hw => hw.elim (fun h0 => Or.inr (Or.inl (h0))) (fun h0 => Or.inr (Or.inr (Or.inl (h0))))))
    cases h
    exact Fr12
  · obtain ⟨r4, er4, h⟩ := gb_bd_e h
    have Fr4 := gb_Fr.tr Fr2 (gb_Fr.up (w_X11_isPerson er4) (fun _ _ hw => hw.elim))
    rcases gb_ite_e h with h | h
    · exact gb_Fr.tr Fr4 (w_X11_own_56 h)
    · obtain ⟨r8, er8, h⟩ := gb_bd_e h
      have Fr8 := gb_Fr.tr Fr4 (gb_Fr.up (w_X11_isGood er8) (fun _ _ hw => hw.elim))
      rcases gb_ite_e h with h | h
      · exact gb_Fr.tr Fr8 (w_X11_own_56 h)
      · obtain ⟨r10, er10, h⟩ := gb_bd_e h
        have Fr10 := gb_Fr.tr Fr8 (gb_Fr.up (w_X11_change er10) (fun _ _ hw => hw.elim (fun h0 => Or.inr (Or.inl (h0))) (fun h0 => Or.inr (Or.inr (Or.inr (h0))))))
        cases h
        exact Fr10
set_option maxRecDepth 100000 in
set_option maxHeartbeats 4000000 in
theorem w_X11_terms_60 {sh : List gb_Sh} {y1 : Int32} {y2 : Int32} {z0 : Int32} {g : gb_G}  {o : (gb_G × Int32)} (h : f_X11_terms_60 sh g y1 y2 z0 = some o) : gb_Fr (fun c k => (c = 77 ∧ k = 0) ∨ (c = 77 ∧ k = 1) ∨ (c = 77 ∧ k = 8) ∨ c = 78 ∨ c = 79) g o.1 := by
  unfold f_X11_terms_60 at h
  have Fg : gb_Fr (fun c k => (c = 77 ∧ k = 0) ∨ (c = 77 ∧ k = 1) ∨ (c = 77 ∧ k = 8) ∨ c = 78 ∨ c = 79) g g := gb_Fr.rf
  rcases gb_ite_e h with h | h
  · obtain ⟨r5, er5, h⟩ := gb_bd_e h
    have Fr5 := gb_Fr.tr Fg (gb_Fr.up (w_X11_tell er5) (fun _ _ hw => hw.elim (fun h0 => Or.inr (Or.inl (h0))) (fun h0 => Or.inr (Or.inr (Or.inr (Or.inl (h0)))))))
    cases h
    exact Fr5
  · obtain ⟨g2, eg2, h⟩ := gb_let_x h
    have Fg2 := gb_Fr.tr Fg (gb_Fr.pi (Or.inr (Or.inr (Or.inl (⟨rfl, rfl⟩)))) eg2)
    obtain ⟨r3, er3, h⟩ := gb_bd_e h
    have Fr3 := gb_Fr.tr Fg2 (gb_Fr.up (w_X11_change er3) (fun _ _ hw => hw.elim (fun h0 => Or.inr (Or.inl (h0))) (fun h0 => Or.inr (Or.inr (Or.inr (Or.inr (h0)))))))
    cases h
    exact Fr3
set_option maxRecDepth 100000 in
set_option maxHeartbeats 4000000 in
theorem w_X11_terms {sh : List gb_Sh} {x1 : Int32} {x2 : Int32} {g : gb_G}  {o : (gb_G × Int32)} (h : f_X11_terms sh g x1 x2 = some o) : gb_Fr (fun c k => (c = 77 ∧ k = 0) ∨ (c = 77 ∧ k = 1) ∨ (c = 77 ∧ k = 8) ∨ c = 78 ∨ c = 79) g o.1 := by
  unfold f_X11_terms at h
  have Fg : gb_Fr (fun c k => (c = 77 ∧ k = 0) ∨ (c = 77 ∧ k = 1) ∨ (c = 77 ∧ k = 8) ∨ c = 78 ∨ c = 79) g g := gb_Fr.rf
  obtain ⟨g1, eg1, h⟩ := gb_let_x h
  have Fg1 := gb_Fr.tr Fg (gb_Fr.pi (Or.inl (⟨rfl, rfl⟩)) eg1)
  rcases gb_ite_e h with h | h
  · obtain ⟨r11, er11, h⟩ := gb_bd_e h
    have Fr11 := gb_Fr.tr Fg1 (gb_Fr.up (w_X11_in er11) (fun _ _ hw => hw.elim))
    exact gb_Fr.tr Fr11 (w_X11_terms_60 h)
  · rcases gb_ite_e h with h | h
    · obtain ⟨r9, er9, h⟩ := gb_bd_e h
      have Fr9 := gb_Fr.tr Fg1 (gb_Fr.up (w_X11_in er9) (fun _ _ hw => hw.elim))
      exact gb_Fr.tr Fr9 (w_X11_terms_60 h)
    · rcases gb_ite_e h with h | h
      · obtain ⟨r7, er7, h⟩ := gb_bd_e h
        have Fr7 := gb_Fr.tr Fg1 (gb_Fr.up (w_X11_in er7) (fun _ _ hw => hw.elim))
        rcases gb_ite_e h with h | h
        · exact gb_Fr.tr Fr7 (w_X11_terms_60 h)
        · exact gb_Fr.tr Fr7 (w_X11_terms_60 h)
      · exact gb_Fr.tr Fg1 (w_X11_terms_60 h)
set_option maxRecDepth 100000 in
set_option maxHeartbeats 4000000 in
theorem w_X11_row_91 {sh : List gb_Sh} {K101 : gb_G → Int32 → Int32 → Int32 → Option (gb_G × Int32)} {y1 : Int32} {y2 : Int32} {y3 : Int32} {g : gb_G} (hK101 : ∀ {a0 : gb_G} {a1 : Int32} {a2 : Int32} {a3 : Int32} {o : (gb_G × Int32)}, K101 a0 a1 a2 a3 = some o → gb_Fr (fun c k => (c = 77 ∧ k = 0) ∨ (c = 77 ∧ k = 1) ∨ (c = 77 ∧ k = 8) ∨ (c = 77 ∧ k = 11) ∨ (c = 77 ∧ k = 13) ∨ c = 78 ∨ c = 79) a0 o.1) {o : (gb_G × Int32)} (h : f_X11_row_91 sh K101 g y1 y2 y3 = some o) : gb_Fr (fun c k => (c = 77 ∧ k = 0) ∨ (c = 77 ∧ k = 1) ∨ (c = 77 ∧ k = 8) ∨ (c = 77 ∧ k = 11) ∨ (c = 77 ∧ k = 13) ∨ c = 78 ∨ c = 79) g o.1 := by
  unfold f_X11_row_91 at h
  have Fg : gb_Fr (fun c k => (c = 77 ∧ k = 0) ∨ (c = 77 ∧ k = 1) ∨ (c = 77 ∧ k = 8) ∨ (c = 77 ∧ k = 11) ∨ (c = 77 ∧ k = 13) ∨ c = 78 ∨ c = 79) g g := gb_Fr.rf
  obtain ⟨g6, eg6, h⟩ := gb_let_x h
  have Fg6 := gb_Fr.tr Fg (gb_Fr.pi (Or.inr (Or.inr (Or.inr (Or.inl (⟨rfl, rfl⟩))))) eg6)
  exact gb_Fr.tr Fg6 (hK101 h)
set_option maxRecDepth 100000 in
set_option maxHeartbeats 4000000 in
theorem w_X11_row_101 {sh : List gb_Sh} {K35 : gb_G → Int32 → Int32 → Int32 → Option (gb_G × Int32)} {y1 : Int32} {y2 : Int32} {y3 : Int32} {g : gb_G} (hK35 : ∀ {a0 : gb_G} {a1 : Int32} {a2 : Int32} {a3 : Int32} {o : (gb_G × Int32)}, K35 a0 a1 a2 a3 = some o → gb_Fr (fun c k => (c = 77 ∧ k = 0) ∨ (c = 77 ∧ k = 1) ∨ (c = 77 ∧ k = 8) ∨ (c = 77 ∧ k = 11) ∨ (c = 77 ∧ k = 13) ∨ c = 78 ∨ c = 79) a0 o.1) {o : (gb_G × Int32)} (h : f_X11_row_101 sh K35 g y1 y2 y3 = some o) : gb_Fr (fun c k => (c = 77 ∧ k = 0) ∨ (c = 77 ∧ k = 1) ∨ (c = 77 ∧ k = 8) ∨ (c = 77 ∧ k = 11) ∨ (c = 77 ∧ k = 13) ∨ c = 78 ∨ c = 79) g o.1 := by
  unfold f_X11_row_101 at h
  have Fg : gb_Fr (fun c k => (c = 77 ∧ k = 0) ∨ (c = 77 ∧ k = 1) ∨ (c = 77 ∧ k = 8) ∨ (c = 77 ∧ k = 11) ∨ (c = 77 ∧ k = 13) ∨ c = 78 ∨ c = 79) g g := gb_Fr.rf
  exact gb_Fr.tr Fg (hK35 h)
set_option maxRecDepth 100000 in
set_option maxHeartbeats 4000000 in
theorem w_X11_row_35 {sh : List gb_Sh}  : ∀ (n : Nat) {g : gb_G} {y1 : Int32} {y2 : Int32} {y3 : Int32} {o : (gb_G × Int32)} (h : f_X11_row_35 sh n g y1 y2 y3 = some o), gb_Fr (fun c k => (c = 77 ∧ k = 0) ∨ (c = 77 ∧ k = 1) ∨ (c = 77 ∧ k = 8) ∨ (c = 77 ∧ k = 11) ∨ (c = 77 ∧ k = 13) ∨ c = 78 ∨ c = 79) g o.1 := by
  intro n
  induction n with
  | zero => intro g y1 y2 y3 o h; cases h
  | succ n ih =>
    intro g y1 y2 y3 o h
    rw [f_X11_row_35] at h
    have Fg : gb_Fr (fun c k => (c = 77 ∧ k = 0) ∨ (c = 77 ∧ k = 1) ∨ (c = 77 ∧ k = 8) ∨ (c = 77 ∧ k = 11) ∨ (c = 77 ∧ k = 13) ∨ c = 78 ∨ c = 79) g g := gb_Fr.rf
    rcases gb_ite_e h with h | h
    · obtain ⟨r4, er4, h⟩ := gb_bd_e h
      have Fr4 := gb_Fr.tr Fg (gb_Fr.up (w_X11_settled er4) (fun _ _ hw => hw.elim (fun h0 => Or.inr (Or.inl (h0))) (fun h0 => h0.elim (fun h1 => Or.inr (Or.inr (Or.inl (h1)))) (fun h1 => Or.inr (Or.inr (Or.inr (Or.inr (Or.inr (Or.inl (h1))))))))))
      cases h
      exact Fr4
    · rcases gb_ite_e h with h | h
      · exact gb_Fr.tr Fg (w_X11_row_91 (fun hh => w_X11_row_101 (fun hh => ih hh) hh) h)
      · obtain ⟨-, h⟩ := gb_ck_e h
        obtain ⟨-, h⟩ := gb_ck_e h
        obtain ⟨-, h⟩ := gb_ck_e h
        obtain ⟨-, h⟩ := gb_ck_e h
        obtain ⟨r11, er11, h⟩ := gb_bd_e h
        have Fr11 := gb_Fr.tr Fg (gb_Fr.up (w_X11_come er11) (fun _ _ hw => Or.inr (Or.inr (Or.inr (Or.inr (Or.inr (Or.inr (hw))))))))
        rcases gb_ite_e h with h | h
        · exact gb_Fr.tr Fr11 (w_X11_row_91 (fun hh => w_X11_row_101 (fun hh => ih hh) hh) h)
        · exact gb_Fr.tr Fr11 (w_X11_row_101 (fun hh => ih hh) h)
set_option maxRecDepth 100000 in
set_option maxHeartbeats 4000000 in
theorem w_X11_row {sh : List gb_Sh} {g : gb_G}  {o : (gb_G × Int32)} (h : f_X11_row sh g = some o) : gb_Fr (fun c k => (c = 77 ∧ k = 0) ∨ (c = 77 ∧ k = 1) ∨ (c = 77 ∧ k = 8) ∨ (c = 77 ∧ k = 11) ∨ (c = 77 ∧ k = 13) ∨ c = 78 ∨ c = 79) g o.1 := by
  unfold f_X11_row at h
  have Fg : gb_Fr (fun c k => (c = 77 ∧ k = 0) ∨ (c = 77 ∧ k = 1) ∨ (c = 77 ∧ k = 8) ∨ (c = 77 ∧ k = 11) ∨ (c = 77 ∧ k = 13) ∨ c = 78 ∨ c = 79) g g := gb_Fr.rf
  obtain ⟨g1, eg1, h⟩ := gb_let_x h
  have Fg1 := gb_Fr.tr Fg (gb_Fr.pi (Or.inl (⟨rfl, rfl⟩)) eg1)
  obtain ⟨g2, eg2, h⟩ := gb_let_x h
  have Fg2 := gb_Fr.tr Fg1 (gb_Fr.pi (Or.inr (Or.inr (Or.inr (Or.inr (Or.inl (⟨rfl, rfl⟩)))))) eg2)
  rcases gb_ite_e h with h | h
  · obtain ⟨r13, er13, h⟩ := gb_bd_e h
    have Fr13 := gb_Fr.tr Fg2 (gb_Fr.up (w_X11_tell er13) (fun _ _ hw => hw.elim (fun h0 => Or.inr (Or.inl (h0))) (fun h0 => Or.inr (Or.inr (Or.inr (Or.inr (Or.inr (Or.inl (h0)))))))))
    cases h
    exact Fr13
  · obtain ⟨g3, eg3, h⟩ := gb_let_x h
    have Fg3 := gb_Fr.tr Fg2 (gb_Fr.pi (Or.inr (Or.inr (Or.inr (Or.inl (⟨rfl, rfl⟩))))) eg3)
    exact gb_Fr.tr Fg3 (w_X11_row_35 _ h)
set_option maxRecDepth 100000 in
set_option maxHeartbeats 4000000 in
theorem w_X11_commas {sh : List gb_Sh} {g : gb_G}  {o : (gb_G × Int32)} (h : f_X11_commas sh g = some o) : gb_Fr (fun c k => (c = 77 ∧ k = 0)) g o.1 := by
  unfold f_X11_commas at h
  have Fg : gb_Fr (fun c k => (c = 77 ∧ k = 0)) g g := gb_Fr.rf
  obtain ⟨g1, eg1, h⟩ := gb_let_x h
  have Fg1 := gb_Fr.tr Fg (gb_Fr.pi (⟨rfl, rfl⟩) eg1)
  cases h
  exact Fg1
set_option maxRecDepth 100000 in
set_option maxHeartbeats 4000000 in
theorem w_X11_four_3 {sh : List gb_Sh}  : ∀ (n : Nat) {g : gb_G} {y1 : Int32} {y2 : Int32} {o : (gb_G)} (h : f_X11_four_3 sh n g y1 y2 = some o), gb_Fr (fun c k => (c = 77 ∧ k = 13) ∨ c = 86) g o := by
  intro n
  induction n with
  | zero => intro g y1 y2 o h; cases h
  | succ n ih =>
    intro g y1 y2 o h
    rw [f_X11_four_3] at h
    have Fg : gb_Fr (fun c k => (c = 77 ∧ k = 13) ∨ c = 86) g g := gb_Fr.rf
    rcases gb_ite_e h with h | h
    · cases h
      exact Fg
    · obtain ⟨-, h⟩ := gb_ck_e h
      obtain ⟨g2, eg2, h⟩ := gb_let_x h
      have Fg2 := gb_Fr.tr Fg (gb_Fr.pi (Or.inr (rfl)) eg2)
      obtain ⟨g3, eg3, h⟩ := gb_let_x h
      have Fg3 := gb_Fr.tr Fg2 (gb_Fr.pi (Or.inl (⟨rfl, rfl⟩)) eg3)
      exact gb_Fr.tr Fg3 (ih h)
set_option maxRecDepth 100000 in
set_option maxHeartbeats 4000000 in
theorem w_X11_four {sh : List gb_Sh} {x1 : Int32} {g : gb_G}  {o : (gb_G)} (h : f_X11_four sh g x1 = some o) : gb_Fr (fun c k => (c = 77 ∧ k = 13) ∨ c = 86) g o := by
  unfold f_X11_four at h
  have Fg : gb_Fr (fun c k => (c = 77 ∧ k = 13) ∨ c = 86) g g := gb_Fr.rf
  exact gb_Fr.tr Fg (w_X11_four_3 _ h)
set_option maxRecDepth 100000 in
set_option maxHeartbeats 4000000 in
theorem w_X11_feed {sh : List gb_Sh} {x1 : Int32} {x2 : Int32} {x3 : Int32} {x4 : Int32} {x5 : Int32} {g : gb_G}  {o : (gb_G × Int32)} (h : f_X11_feed sh g x1 x2 x3 x4 x5 = some o) : gb_Fr (fun c k => (c = 77 ∧ k = 0) ∨ (c = 77 ∧ k = 13) ∨ c = 86) g o.1 := by
  unfold f_X11_feed at h
  have Fg : gb_Fr (fun c k => (c = 77 ∧ k = 0) ∨ (c = 77 ∧ k = 13) ∨ c = 86) g g := gb_Fr.rf
  obtain ⟨g1, eg1, h⟩ := gb_let_x h
  have Fg1 := gb_Fr.tr Fg (gb_Fr.pi (Or.inl (⟨rfl, rfl⟩)) eg1)
  rcases gb_ite_e h with h | h
  · obtain ⟨r2, er2, h⟩ := gb_bd_e h
    have Fr2 := gb_Fr.tr Fg1 (gb_Fr.up (w_X11_four er2) (fun _ _ hw => hw.elim (fun h0 => Or.inr (Or.inl (h0))) (fun h0 => Or.inr (Or.inr (h0)))))
    obtain ⟨r4, er4, h⟩ := gb_bd_e h
    have Fr4 := gb_Fr.tr Fr2 (gb_Fr.up (w_X11_four er4) (fun _ _ hw => hw.elim (fun h0 => Or.inr (Or.inl (h0))) (fun h0 => Or.inr (Or.inr (h0)))))
    obtain ⟨r6, er6, h⟩ := gb_bd_e h
    have Fr6 := gb_Fr.tr Fr4 (gb_Fr.up (w_X11_four er6) (fun _ _ hw => hw.elim (fun h0 => Or.inr (Or.inl (h0))) (fun h0 => Or.inr (Or.inr (h0)))))
    obtain ⟨r8, er8, h⟩ := gb_bd_e h
    have Fr8 := gb_Fr.tr Fr6 (gb_Fr.up (w_X11_four er8) (fun _ _ hw => hw.elim (fun h0 => Or.inr (Or.inl (h0))) (fun h0 => Or.inr (Or.inr (h0)))))
    obtain ⟨r10, er10, h⟩ := gb_bd_e h
    have Fr10 := gb_Fr.tr Fr8 (gb_Fr.up (w_X11_four er10) (fun _ _ hw => hw.elim (fun h0 => Or.inr (Or.inl (h0))) (fun h0 => Or.inr (Or.inr (h0)))))
    cases h
    exact Fr10
  · cases h
    exact Fg1
set_option maxRecDepth 100000 in
set_option maxHeartbeats 4000000 in
theorem w_X11_end {sh : List gb_Sh} {x1 : Int32} {g : gb_G}  {o : (gb_G × Int32)} (h : f_X11_end sh g x1 = some o) : gb_Fr (fun c k => (c = 77 ∧ k = 0) ∨ (c = 77 ∧ k = 13)) g o.1 := by
  unfold f_X11_end at h
  have Fg : gb_Fr (fun c k => (c = 77 ∧ k = 0) ∨ (c = 77 ∧ k = 13)) g g := gb_Fr.rf
  obtain ⟨g1, eg1, h⟩ := gb_let_x h
  have Fg1 := gb_Fr.tr Fg (gb_Fr.pi (Or.inl (⟨rfl, rfl⟩)) eg1)
  rcases gb_ite_e h with h | h
  · cases h
    exact Fg1
  · rcases gb_ite_e h with h | h
    · obtain ⟨g2, eg2, h⟩ := gb_let_x h
      have Fg2 := gb_Fr.tr Fg1 (gb_Fr.pi (Or.inr (⟨rfl, rfl⟩)) eg2)
      cases h
      exact Fg2
    · cases h
      exact Fg1
set_option maxRecDepth 100000 in
set_option maxHeartbeats 4000000 in
theorem w_X11_isSmall {sh : List gb_Sh} {x1 : Int32} {g : gb_G}  {o : (gb_G × Int32)} (h : f_X11_isSmall sh g x1 = some o) : gb_Fr (fun _ _ => False) g o.1 := by
  unfold f_X11_isSmall at h
  have Fg : gb_Fr (fun _ _ => False) g g := gb_Fr.rf
  rcases gb_ite_e h with h | h
  · cases h
    exact Fg
  · rcases gb_ite_e h with h | h
    · cases h
      exact Fg
    · cases h
      exact Fg
set_option maxRecDepth 100000 in
set_option maxHeartbeats 4000000 in
theorem w_X11_isDigit {sh : List gb_Sh} {x1 : Int32} {g : gb_G}  {o : (gb_G × Int32)} (h : f_X11_isDigit sh g x1 = some o) : gb_Fr (fun _ _ => False) g o.1 := by
  unfold f_X11_isDigit at h
  have Fg : gb_Fr (fun _ _ => False) g g := gb_Fr.rf
  rcases gb_ite_e h with h | h
  · cases h
    exact Fg
  · rcases gb_ite_e h with h | h
    · cases h
      exact Fg
    · cases h
      exact Fg
set_option maxRecDepth 100000 in
set_option maxHeartbeats 4000000 in
theorem w_X11_next_319 {sh : List gb_Sh} {K243 : gb_G → Option (gb_G)} {z0 : Int64} {g : gb_G} (hK243 : ∀ {a0 : gb_G} {o : (gb_G)}, K243 a0 = some o → gb_Fr (fun c k => (c = 77 ∧ k = 14) ∨ (c = 77 ∧ k = 15) ∨ (c = 77 ∧ k = 16) ∨ (c = 77 ∧ k = 17)) a0 o) {o : (gb_G)} (h : f_X11_next_319 sh K243 g z0 = some o) : gb_Fr (fun c k => (c = 77 ∧ k = 14) ∨ (c = 77 ∧ k = 15) ∨ (c = 77 ∧ k = 16) ∨ (c = 77 ∧ k = 17)) g o := by
  unfold f_X11_next_319 at h
  have Fg : gb_Fr (fun c k => (c = 77 ∧ k = 14) ∨ (c = 77 ∧ k = 15) ∨ (c = 77 ∧ k = 16) ∨ (c = 77 ∧ k = 17)) g g := gb_Fr.rf
  obtain ⟨g15, eg15, h⟩ := gb_let_x h
  have Fg15 := gb_Fr.tr Fg (gb_Fr.pj (Or.inr (Or.inr (Or.inr (⟨rfl, rfl⟩)))) eg15)
  obtain ⟨g16, eg16, h⟩ := gb_let_x h
  have Fg16 := gb_Fr.tr Fg15 (gb_Fr.pi (Or.inr (Or.inl (⟨rfl, rfl⟩))) eg16)
  exact gb_Fr.tr Fg16 (hK243 h)
set_option maxRecDepth 100000 in
set_option maxHeartbeats 4000000 in
theorem w_X11_next_243 {sh : List gb_Sh}  : ∀ (n : Nat) {g : gb_G} {o : (gb_G)} (h : f_X11_next_243 sh n g = some o), gb_Fr (fun c k => (c = 77 ∧ k = 14) ∨ (c = 77 ∧ k = 15) ∨ (c = 77 ∧ k = 16) ∨ (c = 77 ∧ k = 17)) g o := by
  intro n
  induction n with
  | zero => intro g o h; cases h
  | succ n ih =>
    intro g o h
    rw [f_X11_next_243] at h
    have Fg : gb_Fr (fun c k => (c = 77 ∧ k = 14) ∨ (c = 77 ∧ k = 15) ∨ (c = 77 ∧ k = 16) ∨ (c = 77 ∧ k = 17)) g g := gb_Fr.rf
    rcases gb_ite_e h with h | h
    · rcases gb_ite_e h with h | h
      · cases h
        exact Fg
      · obtain ⟨-, h⟩ := gb_ck_e h
        obtain ⟨r12, er12, h⟩ := gb_bd_e h
        have Fr12 := gb_Fr.tr Fg (gb_Fr.up (w_X11_isDigit er12) (fun _ _ hw => hw.elim))
        rcases gb_ite_e h with h | h
        · cases h
          exact Fr12
        · rcases gb_ite_e h with h | h
          · obtain ⟨-, h⟩ := gb_ck_e h
            exact gb_Fr.tr Fr12 (w_X11_next_319 (fun hh => ih hh) h)
          · exact gb_Fr.tr Fr12 (w_X11_next_319 (fun hh => ih hh) h)
    · cases h
      exact Fg
set_option maxRecDepth 100000 in
set_option maxHeartbeats 4000000 in
theorem w_X11_next_227 {sh : List gb_Sh} {K149 : gb_G → Option (gb_G)} {z0 : Int64} {g : gb_G} (hK149 : ∀ {a0 : gb_G} {o : (gb_G)}, K149 a0 = some o → gb_Fr (fun c k => (c = 77 ∧ k = 14) ∨ (c = 77 ∧ k = 15) ∨ (c = 77 ∧ k = 16) ∨ (c = 77 ∧ k = 17)) a0 o) {o : (gb_G)} (h : f_X11_next_227 sh K149 g z0 = some o) : gb_Fr (fun c k => (c = 77 ∧ k = 14) ∨ (c = 77 ∧ k = 15) ∨ (c = 77 ∧ k = 16) ∨ (c = 77 ∧ k = 17)) g o := by
  unfold f_X11_next_227 at h
  have Fg : gb_Fr (fun c k => (c = 77 ∧ k = 14) ∨ (c = 77 ∧ k = 15) ∨ (c = 77 ∧ k = 16) ∨ (c = 77 ∧ k = 17)) g g := gb_Fr.rf
  obtain ⟨g20, eg20, h⟩ := gb_let_x h
  have Fg20 := gb_Fr.tr Fg (gb_Fr.pj (Or.inr (Or.inr (Or.inr (⟨rfl, rfl⟩)))) eg20)
  obtain ⟨g21, eg21, h⟩ := gb_let_x h
  have Fg21 := gb_Fr.tr Fg20 (gb_Fr.pi (Or.inr (Or.inl (⟨rfl, rfl⟩))) eg21)
  exact gb_Fr.tr Fg21 (hK149 h)
set_option maxRecDepth 100000 in
set_option maxHeartbeats 4000000 in
theorem w_X11_next_149 {sh : List gb_Sh}  : ∀ (n : Nat) {g : gb_G} {o : (gb_G)} (h : f_X11_next_149 sh n g = some o), gb_Fr (fun c k => (c = 77 ∧ k = 14) ∨ (c = 77 ∧ k = 15) ∨ (c = 77 ∧ k = 16) ∨ (c = 77 ∧ k = 17)) g o := by
  intro n
  induction n with
  | zero => intro g o h; cases h
  | succ n ih =>
    intro g o h
    rw [f_X11_next_149] at h
    have Fg : gb_Fr (fun c k => (c = 77 ∧ k = 14) ∨ (c = 77 ∧ k = 15) ∨ (c = 77 ∧ k = 16) ∨ (c = 77 ∧ k = 17)) g g := gb_Fr.rf
    rcases gb_ite_e h with h | h
    · rcases gb_ite_e h with h | h
      · exact gb_Fr.tr Fg (w_X11_next_243 _ h)
      · obtain ⟨-, h⟩ := gb_ck_e h
        obtain ⟨r18, er18, h⟩ := gb_bd_e h
        have Fr18 := gb_Fr.tr Fg (gb_Fr.up (w_X11_isSmall er18) (fun _ _ hw => hw.elim))
        rcases gb_ite_e h with h | h
        · exact gb_Fr.tr Fr18 (w_X11_next_243 _ h)
        · rcases gb_ite_e h with h | h
          · exact gb_Fr.tr Fr18 (w_X11_next_227 (fun hh => ih hh) h)
          · obtain ⟨-, h⟩ := gb_ck_e h
            exact gb_Fr.tr Fr18 (w_X11_next_227 (fun hh => ih hh) h)
    · exact gb_Fr.tr Fg (w_X11_next_243 _ h)
set_option maxRecDepth 100000 in
set_option maxHeartbeats 4000000 in
theorem w_X11_next_114 {sh : List gb_Sh} {z0 : Int32} {g : gb_G}  {o : (gb_G)} (h : f_X11_next_114 sh g z0 = some o) : gb_Fr (fun c k => (c = 77 ∧ k = 14) ∨ (c = 77 ∧ k = 15) ∨ (c = 77 ∧ k = 16) ∨ (c = 77 ∧ k = 17)) g o := by
  unfold f_X11_next_114 at h
  have Fg : gb_Fr (fun c k => (c = 77 ∧ k = 14) ∨ (c = 77 ∧ k = 15) ∨ (c = 77 ∧ k = 16) ∨ (c = 77 ∧ k = 17)) g g := gb_Fr.rf
  obtain ⟨g10, eg10, h⟩ := gb_let_x h
  have Fg10 := gb_Fr.tr Fg (gb_Fr.pi (Or.inr (Or.inr (Or.inl (⟨rfl, rfl⟩)))) eg10)
  rcases gb_ite_e h with h | h
  · obtain ⟨-, h⟩ := gb_ck_e h
    obtain ⟨g24, eg24, h⟩ := gb_let_x h
    have Fg24 := gb_Fr.tr Fg10 (gb_Fr.pj (Or.inr (Or.inr (Or.inr (⟨rfl, rfl⟩)))) eg24)
    obtain ⟨g25, eg25, h⟩ := gb_let_x h
    have Fg25 := gb_Fr.tr Fg24 (gb_Fr.pi (Or.inr (Or.inl (⟨rfl, rfl⟩))) eg25)
    exact gb_Fr.tr Fg25 (w_X11_next_149 _ h)
  · exact gb_Fr.tr Fg10 (w_X11_next_149 _ h)
set_option maxRecDepth 100000 in
set_option maxHeartbeats 4000000 in
theorem w_X11_next_46 {sh : List gb_Sh} {g : gb_G}  {o : (gb_G)} (h : f_X11_next_46 sh g = some o) : gb_Fr (fun c k => (c = 77 ∧ k = 14) ∨ (c = 77 ∧ k = 15) ∨ (c = 77 ∧ k = 16) ∨ (c = 77 ∧ k = 17)) g o := by
  unfold f_X11_next_46 at h
  have Fg : gb_Fr (fun c k => (c = 77 ∧ k = 14) ∨ (c = 77 ∧ k = 15) ∨ (c = 77 ∧ k = 16) ∨ (c = 77 ∧ k = 17)) g g := gb_Fr.rf
  obtain ⟨g2, eg2, h⟩ := gb_let_x h
  have Fg2 := gb_Fr.tr Fg (gb_Fr.pi (Or.inr (Or.inl (⟨rfl, rfl⟩))) eg2)
  obtain ⟨g3, eg3, h⟩ := gb_let_x h
  have Fg3 := gb_Fr.tr Fg2 (gb_Fr.pj (Or.inr (Or.inr (Or.inr (⟨rfl, rfl⟩)))) eg3)
  rcases gb_ite_e h with h | h
  · exact gb_Fr.tr Fg3 (w_X11_next_114 h)
  · obtain ⟨-, h⟩ := gb_ck_e h
    obtain ⟨r5, er5, h⟩ := gb_bd_e h
    have Fr5 := gb_Fr.tr Fg3 (gb_Fr.up (w_X11_isSmall er5) (fun _ _ hw => hw.elim))
    rcases gb_ite_e h with h | h
    · obtain ⟨-, h⟩ := gb_ck_e h
      obtain ⟨r8, er8, h⟩ := gb_bd_e h
      have Fr8 := gb_Fr.tr Fr5 (gb_Fr.up (w_X11_isDigit er8) (fun _ _ hw => hw.elim))
      rcases gb_ite_e h with h | h
      · exact gb_Fr.tr Fr8 (w_X11_next_114 h)
      · exact gb_Fr.tr Fr8 (w_X11_next_114 h)
    · exact gb_Fr.tr Fr5 (w_X11_next_114 h)
set_option maxRecDepth 100000 in
set_option maxHeartbeats 4000000 in
theorem w_X11_next_8 {sh : List gb_Sh}  : ∀ (n : Nat) {g : gb_G} {o : (gb_G)} (h : f_X11_next_8 sh n g = some o), gb_Fr (fun c k => (c = 77 ∧ k = 14) ∨ (c = 77 ∧ k = 15) ∨ (c = 77 ∧ k = 16) ∨ (c = 77 ∧ k = 17)) g o := by
  intro n
  induction n with
  | zero => intro g o h; cases h
  | succ n ih =>
    intro g o h
    rw [f_X11_next_8] at h
    have Fg : gb_Fr (fun c k => (c = 77 ∧ k = 14) ∨ (c = 77 ∧ k = 15) ∨ (c = 77 ∧ k = 16) ∨ (c = 77 ∧ k = 17)) g g := gb_Fr.rf
    rcases gb_ite_e h with h | h
    · exact gb_Fr.tr Fg (w_X11_next_46 h)
    · obtain ⟨-, h⟩ := gb_ck_e h
      rcases gb_ite_e h with h | h
      · obtain ⟨g27, eg27, h⟩ := gb_let_x h
        have Fg27 := gb_Fr.tr Fg (gb_Fr.pi (Or.inl (⟨rfl, rfl⟩)) eg27)
        exact gb_Fr.tr Fg27 (ih h)
      · exact gb_Fr.tr Fg (w_X11_next_46 h)
set_option maxRecDepth 100000 in
set_option maxHeartbeats 4000000 in
theorem w_X11_next {sh : List gb_Sh} {g : gb_G}  {o : (gb_G)} (h : f_X11_next sh g = some o) : gb_Fr (fun c k => (c = 77 ∧ k = 14) ∨ (c = 77 ∧ k = 15) ∨ (c = 77 ∧ k = 16) ∨ (c = 77 ∧ k = 17)) g o := by
  unfold f_X11_next at h
  have Fg : gb_Fr (fun c k => (c = 77 ∧ k = 14) ∨ (c = 77 ∧ k = 15) ∨ (c = 77 ∧ k = 16) ∨ (c = 77 ∧ k = 17)) g g := gb_Fr.rf
  obtain ⟨g1, eg1, h⟩ := gb_let_x h
  have Fg1 := gb_Fr.tr Fg (gb_Fr.pi (Or.inl (⟨rfl, rfl⟩)) eg1)
  exact gb_Fr.tr Fg1 (w_X11_next_8 _ h)
set_option maxRecDepth 100000 in
set_option maxHeartbeats 4000000 in
theorem w_X11_begin {sh : List gb_Sh} {g : gb_G}  {o : (gb_G)} (h : f_X11_begin sh g = some o) : gb_Fr (fun c k => (c = 77 ∧ k = 14) ∨ (c = 77 ∧ k = 15) ∨ (c = 77 ∧ k = 16) ∨ (c = 77 ∧ k = 17) ∨ (c = 77 ∧ k = 18) ∨ (c = 77 ∧ k = 19)) g o := by
  unfold f_X11_begin at h
  have Fg : gb_Fr (fun c k => (c = 77 ∧ k = 14) ∨ (c = 77 ∧ k = 15) ∨ (c = 77 ∧ k = 16) ∨ (c = 77 ∧ k = 17) ∨ (c = 77 ∧ k = 18) ∨ (c = 77 ∧ k = 19)) g g := gb_Fr.rf
  obtain ⟨g1, eg1, h⟩ := gb_let_x h
  have Fg1 := gb_Fr.tr Fg (gb_Fr.pi (Or.inr (Or.inl (⟨rfl, rfl⟩))) eg1)
  obtain ⟨g2, eg2, h⟩ := gb_let_x h
  have Fg2 := gb_Fr.tr Fg1 (gb_Fr.pi (Or.inr (Or.inr (Or.inr (Or.inr (Or.inr (⟨rfl, rfl⟩)))))) eg2)
  obtain ⟨g3, eg3, h⟩ := gb_let_x h
  have Fg3 := gb_Fr.tr Fg2 (gb_Fr.pi (Or.inr (Or.inr (Or.inr (Or.inr (Or.inl (⟨rfl, rfl⟩)))))) eg3)
  obtain ⟨r4, er4, h⟩ := gb_bd_e h
  have Fr4 := gb_Fr.tr Fg3 (gb_Fr.up (w_X11_next er4) (fun _ _ hw => hw.elim (fun h0 => Or.inl (h0)) (fun h0 => h0.elim (fun h1 => Or.inr (Or.inl (h1))) (fun h1 => h1.elim (fun h2 => Or.inr (Or.inr (Or.inl (h2)))) (fun h2 => Or.inr (Or.inr (Or.inr (Or.inl (h2)))))))))
  cases h
  exact Fr4
set_option maxRecDepth 100000 in
set_option maxHeartbeats 4000000 in
theorem w_X11_isWord {sh : List gb_Sh} {x1 : Int64} {g : gb_G}  {o : (gb_G × Int32)} (h : f_X11_isWord sh g x1 = some o) : gb_Fr (fun _ _ => False) g o.1 := by
  unfold f_X11_isWord at h
  have Fg : gb_Fr (fun _ _ => False) g g := gb_Fr.rf
  rcases gb_ite_e h with h | h
  · rcases gb_ite_e h with h | h
    · cases h
      exact Fg
    · cases h
      exact Fg
  · cases h
    exact Fg
set_option maxRecDepth 100000 in
set_option maxHeartbeats 4000000 in
theorem w_X11_isSign {sh : List gb_Sh} {x1 : Int32} {g : gb_G}  {o : (gb_G × Int32)} (h : f_X11_isSign sh g x1 = some o) : gb_Fr (fun _ _ => False) g o.1 := by
  unfold f_X11_isSign at h
  have Fg : gb_Fr (fun _ _ => False) g g := gb_Fr.rf
  rcases gb_ite_e h with h | h
  · rcases gb_ite_e h with h | h
    · cases h
      exact Fg
    · cases h
      exact Fg
  · cases h
    exact Fg
set_option maxRecDepth 100000 in
set_option maxHeartbeats 4000000 in
theorem w_X11_must_24 {sh : List gb_Sh} {g : gb_G}  {o : (gb_G)} (h : f_X11_must_24 sh g = some o) : gb_Fr (fun c k => (c = 77 ∧ k = 14) ∨ (c = 77 ∧ k = 15) ∨ (c = 77 ∧ k = 16) ∨ (c = 77 ∧ k = 17) ∨ (c = 77 ∧ k = 18) ∨ (c = 77 ∧ k = 19)) g o := by
  unfold f_X11_must_24 at h
  have Fg : gb_Fr (fun c k => (c = 77 ∧ k = 14) ∨ (c = 77 ∧ k = 15) ∨ (c = 77 ∧ k = 16) ∨ (c = 77 ∧ k = 17) ∨ (c = 77 ∧ k = 18) ∨ (c = 77 ∧ k = 19)) g g := gb_Fr.rf
  rcases gb_ite_e h with h | h
  · obtain ⟨r1, er1, h⟩ := gb_bd_e h
    have Fr1 := gb_Fr.tr Fg (gb_Fr.up (w_X11_next er1) (fun _ _ hw => hw.elim (fun h0 => Or.inl (h0)) (fun h0 => h0.elim (fun h1 => Or.inr (Or.inl (h1))) (fun h1 => h1.elim (fun h2 => Or.inr (Or.inr (Or.inl (h2)))) (fun h2 => Or.inr (Or.inr (Or.inr (Or.inl (h2)))))))))
    cases h
    exact Fr1
  · cases h
    exact Fg
set_option maxRecDepth 100000 in
set_option maxHeartbeats 4000000 in
theorem w_X11_must {sh : List gb_Sh} {x1 : Int32} {g : gb_G}  {o : (gb_G)} (h : f_X11_must sh g x1 = some o) : gb_Fr (fun c k => (c = 77 ∧ k = 14) ∨ (c = 77 ∧ k = 15) ∨ (c = 77 ∧ k = 16) ∨ (c = 77 ∧ k = 17) ∨ (c = 77 ∧ k = 18) ∨ (c = 77 ∧ k = 19)) g o := by
  unfold f_X11_must at h
  have Fg : gb_Fr (fun c k => (c = 77 ∧ k = 14) ∨ (c = 77 ∧ k = 15) ∨ (c = 77 ∧ k = 16) ∨ (c = 77 ∧ k = 17) ∨ (c = 77 ∧ k = 18) ∨ (c = 77 ∧ k = 19)) g g := gb_Fr.rf
  rcases gb_ite_e h with h | h
  · rcases gb_ite_e h with h | h
    · obtain ⟨g3, eg3, h⟩ := gb_let_x h
      have Fg3 := gb_Fr.tr Fg (gb_Fr.pi (Or.inr (Or.inr (Or.inr (Or.inr (Or.inr (⟨rfl, rfl⟩)))))) eg3)
      obtain ⟨g4, eg4, h⟩ := gb_let_x h
      have Fg4 := gb_Fr.tr Fg3 (gb_Fr.pi (Or.inr (Or.inr (Or.inr (Or.inr (Or.inl (⟨rfl, rfl⟩)))))) eg4)
      exact gb_Fr.tr Fg4 (w_X11_must_24 h)
    · exact gb_Fr.tr Fg (w_X11_must_24 h)
  · exact gb_Fr.tr Fg (w_X11_must_24 h)
set_option maxRecDepth 100000 in
set_option maxHeartbeats 4000000 in
theorem w_X11_number_33 {sh : List gb_Sh} {y5 : Int32} {z0 : Int32} {g : gb_G}  {o : (gb_G × Int32)} (h : f_X11_number_33 sh g y5 z0 = some o) : gb_Fr (fun c k => (c = 77 ∧ k = 14) ∨ (c = 77 ∧ k = 15) ∨ (c = 77 ∧ k = 16) ∨ (c = 77 ∧ k = 17) ∨ (c = 77 ∧ k = 18) ∨ (c = 77 ∧ k = 19)) g o.1 := by
  unfold f_X11_number_33 at h
  have Fg : gb_Fr (fun c k => (c = 77 ∧ k = 14) ∨ (c = 77 ∧ k = 15) ∨ (c = 77 ∧ k = 16) ∨ (c = 77 ∧ k = 17) ∨ (c = 77 ∧ k = 18) ∨ (c = 77 ∧ k = 19)) g g := gb_Fr.rf
  obtain ⟨r1, er1, h⟩ := gb_bd_e h
  have Fr1 := gb_Fr.tr Fg (gb_Fr.up (w_X11_must er1) (fun _ _ hw => hw.elim (fun h0 => Or.inl (h0)) (fun h0 => h0.elim (fun h1 => Or.inr (Or.inl (h1))) (fun h1 => h1.elim (fun h2 => Or.inr (Or.inr (Or.inl (h2)))) (fun h2 => h2.elim (fun h3 => Or.inr (Or.inr (Or.inr (Or.inl (h3))))) (fun h3 => h3.elim (fun h4 => Or.inr (Or.inr (Or.inr (Or.inr (Or.inl (h4)))))) (fun h4 => Or.inr (Or.inr (Or.inr (Or.inr (Or.inr (h4))))))))))))
  cases h
  exact Fr1
set_option maxRecDepth 100000 in
set_option maxHeartbeats 4000000 in
theorem w_X11_number {sh : List gb_Sh} {x1 : Int64} {x2 : Int64} {g : gb_G}  {o : (gb_G × Int32)} (h : f_X11_number sh g x1 x2 = some o) : gb_Fr (fun c k => (c = 77 ∧ k = 14) ∨ (c = 77 ∧ k = 15) ∨ (c = 77 ∧ k = 16) ∨ (c = 77 ∧ k = 17) ∨ (c = 77 ∧ k = 18) ∨ (c = 77 ∧ k = 19)) g o.1 := by
  unfold f_X11_number at h
  have Fg : gb_Fr (fun c k => (c = 77 ∧ k = 14) ∨ (c = 77 ∧ k = 15) ∨ (c = 77 ∧ k = 16) ∨ (c = 77 ∧ k = 17) ∨ (c = 77 ∧ k = 18) ∨ (c = 77 ∧ k = 19)) g g := gb_Fr.rf
  rcases gb_ite_e h with h | h
  · obtain ⟨r3, er3, h⟩ := gb_bd_e h
    have Fr3 := gb_Fr.tr Fg (gb_Fr.up (w_X11_in er3) (fun _ _ hw => hw.elim))
    rcases gb_ite_e h with h | h
    · exact gb_Fr.tr Fr3 (w_X11_number_33 h)
    · exact gb_Fr.tr Fr3 (w_X11_number_33 h)
  · exact gb_Fr.tr Fg (w_X11_number_33 h)
set_option maxRecDepth 100000 in
set_option maxHeartbeats 4000000 in
theorem w_X11_fault {sh : List gb_Sh} {g : gb_G}  {o : (gb_G × Int32)} (h : f_X11_fault sh g = some o) : gb_Fr (fun c k => (c = 77 ∧ k = 0)) g o.1 := by
  unfold f_X11_fault at h
  have Fg : gb_Fr (fun c k => (c = 77 ∧ k = 0)) g g := gb_Fr.rf
  obtain ⟨g1, eg1, h⟩ := gb_let_x h
  have Fg1 := gb_Fr.tr Fg (gb_Fr.pi (⟨rfl, rfl⟩) eg1)
  cases h
  exact Fg1
set_option maxRecDepth 100000 in
set_option maxHeartbeats 4000000 in
theorem w_X11_emit {sh : List gb_Sh} {x1 : Int32} {x2 : Int32} {g : gb_G}  {o : (gb_G)} (h : f_X11_emit sh g x1 x2 = some o) : gb_Fr (fun c k => (c = 77 ∧ k = 23) ∨ c = 88 ∨ c = 89) g o := by
  unfold f_X11_emit at h
  have Fg : gb_Fr (fun c k => (c = 77 ∧ k = 23) ∨ c = 88 ∨ c = 89) g g := gb_Fr.rf
  obtain ⟨-, h⟩ := gb_ck_e h
  obtain ⟨g2, eg2, h⟩ := gb_let_x h
  have Fg2 := gb_Fr.tr Fg (gb_Fr.pi (Or.inr (Or.inl (rfl))) eg2)
  obtain ⟨-, h⟩ := gb_ck_e h
  obtain ⟨g4, eg4, h⟩ := gb_let_x h
  have Fg4 := gb_Fr.tr Fg2 (gb_Fr.pi (Or.inr (Or.inr (rfl))) eg4)
  obtain ⟨g5, eg5, h⟩ := gb_let_x h
  have Fg5 := gb_Fr.tr Fg4 (gb_Fr.pi (Or.inl (⟨rfl, rfl⟩)) eg5)
  cases h
  exact Fg5
set_option maxRecDepth 100000 in
set_option maxHeartbeats 4000000 in
theorem w_X11_push {sh : List gb_Sh} {x1 : Int32} {x2 : Int32} {g : gb_G}  {o : (gb_G)} (h : f_X11_push sh g x1 x2 = some o) : gb_Fr (fun c k => (c = 77 ∧ k = 29) ∨ c = 90 ∨ c = 91) g o := by
  unfold f_X11_push at h
  have Fg : gb_Fr (fun c k => (c = 77 ∧ k = 29) ∨ c = 90 ∨ c = 91) g g := gb_Fr.rf
  obtain ⟨-, h⟩ := gb_ck_e h
  obtain ⟨g2, eg2, h⟩ := gb_let_x h
  have Fg2 := gb_Fr.tr Fg (gb_Fr.pi (Or.inr (Or.inl (rfl))) eg2)
  obtain ⟨-, h⟩ := gb_ck_e h
  obtain ⟨g4, eg4, h⟩ := gb_let_x h
  have Fg4 := gb_Fr.tr Fg2 (gb_Fr.pi (Or.inr (Or.inr (rfl))) eg4)
  obtain ⟨g5, eg5, h⟩ := gb_let_x h
  have Fg5 := gb_Fr.tr Fg4 (gb_Fr.pi (Or.inl (⟨rfl, rfl⟩)) eg5)
  cases h
  exact Fg5
set_option maxRecDepth 100000 in
set_option maxHeartbeats 4000000 in
theorem w_X11_binds {sh : List gb_Sh} {x1 : Int32} {g : gb_G}  {o : (gb_G × Int32)} (h : f_X11_binds sh g x1 = some o) : gb_Fr (fun _ _ => False) g o.1 := by
  unfold f_X11_binds at h
  have Fg : gb_Fr (fun _ _ => False) g g := gb_Fr.rf
  rcases gb_ite_e h with h | h
  · rcases gb_ite_e h with h | h
    · cases h
      exact Fg
    · rcases gb_ite_e h with h | h
      · cases h
        exact Fg
      · rcases gb_ite_e h with h | h
        · cases h
          exact Fg
        · rcases gb_ite_e h with h | h
          · rcases gb_ite_e h with h | h
            · cases h
              exact Fg
            · cases h
              exact Fg
          · cases h
            exact Fg
  · cases h
    exact Fg
set_option maxRecDepth 100000 in
set_option maxHeartbeats 4000000 in
theorem w_X11_settle_63 {sh : List gb_Sh} {K0 : gb_G → Int32 → Option (gb_G)} {y1 : Int32} {g : gb_G} (hK0 : ∀ {a0 : gb_G} {a1 : Int32} {o : (gb_G)}, K0 a0 a1 = some o → gb_Fr (fun c k => (c = 77 ∧ k = 23) ∨ (c = 77 ∧ k = 29) ∨ c = 88 ∨ c = 89) a0 o) {o : (gb_G)} (h : f_X11_settle_63 sh K0 g y1 = some o) : gb_Fr (fun c k => (c = 77 ∧ k = 23) ∨ (c = 77 ∧ k = 29) ∨ c = 88 ∨ c = 89) g o := by
  unfold f_X11_settle_63 at h
  have Fg : gb_Fr (fun c k => (c = 77 ∧ k = 23) ∨ (c = 77 ∧ k = 29) ∨ c = 88 ∨ c = 89) g g := gb_Fr.rf
  obtain ⟨-, h⟩ := gb_ck_e h
  obtain ⟨-, h⟩ := gb_ck_e h
  obtain ⟨g8, eg8, h⟩ := gb_let_x h
  have Fg8 := gb_Fr.tr Fg (gb_Fr.pi (Or.inr (Or.inr (Or.inr (rfl)))) eg8)
  exact gb_Fr.tr Fg8 (hK0 h)
set_option maxRecDepth 100000 in
set_option maxHeartbeats 4000000 in
theorem w_X11_settle_0 {sh : List gb_Sh}  : ∀ (n : Nat) {g : gb_G} {y1 : Int32} {o : (gb_G)} (h : f_X11_settle_0 sh n g y1 = some o), gb_Fr (fun c k => (c = 77 ∧ k = 23) ∨ (c = 77 ∧ k = 29) ∨ c = 88 ∨ c = 89) g o := by
  intro n
  induction n with
  | zero => intro g y1 o h; cases h
  | succ n ih =>
    intro g y1 o h
    rw [f_X11_settle_0] at h
    have Fg : gb_Fr (fun c k => (c = 77 ∧ k = 23) ∨ (c = 77 ∧ k = 29) ∨ c = 88 ∨ c = 89) g g := gb_Fr.rf
    rcases gb_ite_e h with h | h
    · cases h
      exact Fg
    · obtain ⟨-, h⟩ := gb_ck_e h
      obtain ⟨r10, er10, h⟩ := gb_bd_e h
      have Fr10 := gb_Fr.tr Fg (gb_Fr.up (w_X11_binds er10) (fun _ _ hw => hw.elim))
      rcases gb_ite_e h with h | h
      · cases h
        exact Fr10
      · obtain ⟨g12, eg12, h⟩ := gb_let_x h
        have Fg12 := gb_Fr.tr Fr10 (gb_Fr.pi (Or.inr (Or.inl (⟨rfl, rfl⟩))) eg12)
        obtain ⟨-, h⟩ := gb_ck_e h
        rcases gb_ite_e h with h | h
        · exact gb_Fr.tr Fg12 (w_X11_settle_63 (fun hh => ih hh) h)
        · obtain ⟨-, h⟩ := gb_ck_e h
          rcases gb_ite_e h with h | h
          · exact gb_Fr.tr Fg12 (w_X11_settle_63 (fun hh => ih hh) h)
          · obtain ⟨-, h⟩ := gb_ck_e h
            obtain ⟨r16, er16, h⟩ := gb_bd_e h
            have Fr16 := gb_Fr.tr Fg12 (gb_Fr.up (w_X11_emit er16) (fun _ _ hw => hw.elim (fun h0 => Or.inl (h0)) (fun h0 => h0.elim (fun h1 => Or.inr (Or.inr (Or.inl (h1)))) (fun h1 => Or.inr (Or.inr (Or.inr (h1)))))))
            exact gb_Fr.tr Fr16 (ih h)
set_option maxRecDepth 100000 in
set_option maxHeartbeats 4000000 in
theorem w_X11_settle {sh : List gb_Sh} {x1 : Int32} {g : gb_G}  {o : (gb_G)} (h : f_X11_settle sh g x1 = some o) : gb_Fr (fun c k => (c = 77 ∧ k = 23) ∨ (c = 77 ∧ k = 29) ∨ c = 88 ∨ c = 89) g o := by
  unfold f_X11_settle at h
  have Fg : gb_Fr (fun c k => (c = 77 ∧ k = 23) ∨ (c = 77 ∧ k = 29) ∨ c = 88 ∨ c = 89) g g := gb_Fr.rf
  rcases gb_ite_e h with h | h
  · cases h
    exact Fg
  · obtain ⟨-, h⟩ := gb_ck_e h
    obtain ⟨r2, er2, h⟩ := gb_bd_e h
    have Fr2 := gb_Fr.tr Fg (gb_Fr.up (w_X11_binds er2) (fun _ _ hw => hw.elim))
    rcases gb_ite_e h with h | h
    · cases h
      exact Fr2
    · obtain ⟨g4, eg4, h⟩ := gb_let_x h
      have Fg4 := gb_Fr.tr Fr2 (gb_Fr.pi (Or.inr (Or.inl (⟨rfl, rfl⟩))) eg4)
      obtain ⟨-, h⟩ := gb_ck_e h
      rcases gb_ite_e h with h | h
      · exact gb_Fr.tr Fg4 (w_X11_settle_63 (fun hh => w_X11_settle_0 _ hh) h)
      · obtain ⟨-, h⟩ := gb_ck_e h
        rcases gb_ite_e h with h | h
        · exact gb_Fr.tr Fg4 (w_X11_settle_63 (fun hh => w_X11_settle_0 _ hh) h)
        · obtain ⟨-, h⟩ := gb_ck_e h
          obtain ⟨r20, er20, h⟩ := gb_bd_e h
          have Fr20 := gb_Fr.tr Fg4 (gb_Fr.up (w_X11_emit er20) (fun _ _ hw => hw.elim (fun h0 => Or.inl (h0)) (fun h0 => h0.elim (fun h1 => Or.inr (Or.inr (Or.inl (h1)))) (fun h1 => Or.inr (Or.inr (Or.inr (h1)))))))
          exact gb_Fr.tr Fr20 (w_X11_settle_0 _ h)
set_option maxRecDepth 100000 in
set_option maxHeartbeats 4000000 in
theorem w_X11_inner_33 {sh : List gb_Sh} {K4 : gb_G → Int32 → Int32 → Option (gb_G × Int32)} {y2 : Int32} {z0 : Int32} {g : gb_G} (hK4 : ∀ {a0 : gb_G} {a1 : Int32} {a2 : Int32} {o : (gb_G × Int32)}, K4 a0 a1 a2 = some o → gb_Fr (fun _ _ => False) a0 o.1) {o : (gb_G × Int32)} (h : f_X11_inner_33 sh K4 g y2 z0 = some o) : gb_Fr (fun _ _ => False) g o.1 := by
  unfold f_X11_inner_33 at h
  have Fg : gb_Fr (fun _ _ => False) g g := gb_Fr.rf
  exact gb_Fr.tr Fg (hK4 h)
set_option maxRecDepth 100000 in
set_option maxHeartbeats 4000000 in
theorem w_X11_inner_4 {sh : List gb_Sh}  : ∀ (n : Nat) {g : gb_G} {y1 : Int32} {y2 : Int32} {o : (gb_G × Int32)} (h : f_X11_inner_4 sh n g y1 y2 = some o), gb_Fr (fun _ _ => False) g o.1 := by
  intro n
  induction n with
  | zero => intro g y1 y2 o h; cases h
  | succ n ih =>
    intro g y1 y2 o h
    rw [f_X11_inner_4] at h
    have Fg : gb_Fr (fun _ _ => False) g g := gb_Fr.rf
    rcases gb_ite_e h with h | h
    · cases h
      exact Fg
    · obtain ⟨-, h⟩ := gb_ck_e h
      rcases gb_ite_e h with h | h
      · exact gb_Fr.tr Fg (w_X11_inner_33 (fun hh => ih hh) h)
      · obtain ⟨-, h⟩ := gb_ck_e h
        exact gb_Fr.tr Fg (w_X11_inner_33 (fun hh => ih hh) h)
set_option maxRecDepth 100000 in
set_option maxHeartbeats 4000000 in
theorem w_X11_inner {sh : List gb_Sh} {g : gb_G}  {o : (gb_G × Int32)} (h : f_X11_inner sh g = some o) : gb_Fr (fun _ _ => False) g o.1 := by
  unfold f_X11_inner at h
  have Fg : gb_Fr (fun _ _ => False) g g := gb_Fr.rf
  exact gb_Fr.tr Fg (w_X11_inner_4 _ h)
set_option maxRecDepth 100000 in
set_option maxHeartbeats 4000000 in
theorem w_X11_isCompared_36 {sh : List gb_Sh} {y1 : Int32} {g : gb_G}  {o : (gb_G × Int32)} (h : f_X11_isCompared_36 sh g y1 = some o) : gb_Fr (fun _ _ => False) g o.1 := by
  unfold f_X11_isCompared_36 at h
  have Fg : gb_Fr (fun _ _ => False) g g := gb_Fr.rf
  rcases gb_ite_e h with h | h
  · cases h
    exact Fg
  · obtain ⟨-, h⟩ := gb_ck_e h
    obtain ⟨r2, er2, h⟩ := gb_bd_e h
    have Fr2 := gb_Fr.tr Fg (gb_Fr.up (w_X11_in er2) (fun _ _ hw => hw.elim))
    rcases gb_ite_e h with h | h
    · cases h
      exact Fr2
    · cases h
      exact Fr2
set_option maxRecDepth 100000 in
set_option maxHeartbeats 4000000 in
theorem w_X11_isCompared_7 {sh : List gb_Sh}  : ∀ (n : Nat) {g : gb_G} {y1 : Int32} {o : (gb_G × Int32)} (h : f_X11_isCompared_7 sh n g y1 = some o), gb_Fr (fun _ _ => False) g o.1 := by
  intro n
  induction n with
  | zero => intro g y1 o h; cases h
  | succ n ih =>
    intro g y1 o h
    rw [f_X11_isCompared_7] at h
    have Fg : gb_Fr (fun _ _ => False) g g := gb_Fr.rf
    rcases gb_ite_e h with h | h
    · exact gb_Fr.tr Fg (w_X11_isCompared_36 h)
    · obtain ⟨-, h⟩ := gb_ck_e h
      obtain ⟨r5, er5, h⟩ := gb_bd_e h
      have Fr5 := gb_Fr.tr Fg (gb_Fr.up (w_X11_in er5) (fun _ _ hw => hw.elim))
      rcases gb_ite_e h with h | h
      · exact gb_Fr.tr Fr5 (w_X11_isCompared_36 h)
      · exact gb_Fr.tr Fr5 (ih h)
set_option maxRecDepth 100000 in
set_option maxHeartbeats 4000000 in
theorem w_X11_isCompared {sh : List gb_Sh} {g : gb_G}  {o : (gb_G × Int32)} (h : f_X11_isCompared sh g = some o) : gb_Fr (fun _ _ => False) g o.1 := by
  unfold f_X11_isCompared at h
  have Fg : gb_Fr (fun _ _ => False) g g := gb_Fr.rf
  exact gb_Fr.tr Fg (w_X11_isCompared_7 _ h)
set_option maxRecDepth 100000 in
set_option maxHeartbeats 4000000 in
theorem w_X11_partAt_30 {sh : List gb_Sh} {K4 : gb_G → Int32 → Int32 → Option (gb_G × Int32)} {y2 : Int32} {z0 : Int32} {g : gb_G} (hK4 : ∀ {a0 : gb_G} {a1 : Int32} {a2 : Int32} {o : (gb_G × Int32)}, K4 a0 a1 a2 = some o → gb_Fr (fun _ _ => False) a0 o.1) {o : (gb_G × Int32)} (h : f_X11_partAt_30 sh K4 g y2 z0 = some o) : gb_Fr (fun _ _ => False) g o.1 := by
  unfold f_X11_partAt_30 at h
  have Fg : gb_Fr (fun _ _ => False) g g := gb_Fr.rf
  exact gb_Fr.tr Fg (hK4 h)
set_option maxRecDepth 100000 in
set_option maxHeartbeats 4000000 in
theorem w_X11_partAt_4 {sh : List gb_Sh}  : ∀ (n : Nat) {g : gb_G} {y1 : Int32} {y2 : Int32} {o : (gb_G × Int32)} (h : f_X11_partAt_4 sh n g y1 y2 = some o), gb_Fr (fun _ _ => False) g o.1 := by
  intro n
  induction n with
  | zero => intro g y1 y2 o h; cases h
  | succ n ih =>
    intro g y1 y2 o h
    rw [f_X11_partAt_4] at h
    have Fg : gb_Fr (fun _ _ => False) g g := gb_Fr.rf
    rcases gb_ite_e h with h | h
    · cases h
      exact Fg
    · obtain ⟨-, h⟩ := gb_ck_e h
      obtain ⟨r2, er2, h⟩ := gb_bd_e h
      have Fr2 := gb_Fr.tr Fg (gb_Fr.up (w_X11_isWord er2) (fun _ _ hw => hw.elim))
      rcases gb_ite_e h with h | h
      · exact gb_Fr.tr Fr2 (w_X11_partAt_30 (fun hh => ih hh) h)
      · exact gb_Fr.tr Fr2 (w_X11_partAt_30 (fun hh => ih hh) h)
set_option maxRecDepth 100000 in
set_option maxHeartbeats 4000000 in
theorem w_X11_partAt {sh : List gb_Sh} {g : gb_G}  {o : (gb_G × Int32)} (h : f_X11_partAt sh g = some o) : gb_Fr (fun _ _ => False) g o.1 := by
  unfold f_X11_partAt at h
  have Fg : gb_Fr (fun _ _ => False) g g := gb_Fr.rf
  exact gb_Fr.tr Fg (w_X11_partAt_4 _ h)
set_option maxRecDepth 100000 in
set_option maxHeartbeats 4000000 in
theorem w_X11_orderPartAt_30 {sh : List gb_Sh} {K4 : gb_G → Int32 → Int32 → Option (gb_G × Int32)} {y2 : Int32} {z0 : Int32} {g : gb_G} (hK4 : ∀ {a0 : gb_G} {a1 : Int32} {a2 : Int32} {o : (gb_G × Int32)}, K4 a0 a1 a2 = some o → gb_Fr (fun _ _ => False) a0 o.1) {o : (gb_G × Int32)} (h : f_X11_orderPartAt_30 sh K4 g y2 z0 = some o) : gb_Fr (fun _ _ => False) g o.1 := by
  unfold f_X11_orderPartAt_30 at h
  have Fg : gb_Fr (fun _ _ => False) g g := gb_Fr.rf
  exact gb_Fr.tr Fg (hK4 h)
set_option maxRecDepth 100000 in
set_option maxHeartbeats 4000000 in
theorem w_X11_orderPartAt_4 {sh : List gb_Sh}  : ∀ (n : Nat) {g : gb_G} {y1 : Int32} {y2 : Int32} {o : (gb_G × Int32)} (h : f_X11_orderPartAt_4 sh n g y1 y2 = some o), gb_Fr (fun _ _ => False) g o.1 := by
  intro n
  induction n with
  | zero => intro g y1 y2 o h; cases h
  | succ n ih =>
    intro g y1 y2 o h
    rw [f_X11_orderPartAt_4] at h
    have Fg : gb_Fr (fun _ _ => False) g g := gb_Fr.rf
    rcases gb_ite_e h with h | h
    · cases h
      exact Fg
    · obtain ⟨-, h⟩ := gb_ck_e h
      obtain ⟨r2, er2, h⟩ := gb_bd_e h
      have Fr2 := gb_Fr.tr Fg (gb_Fr.up (w_X11_isWord er2) (fun _ _ hw => hw.elim))
      rcases gb_ite_e h with h | h
      · exact gb_Fr.tr Fr2 (w_X11_orderPartAt_30 (fun hh => ih hh) h)
      · exact gb_Fr.tr Fr2 (w_X11_orderPartAt_30 (fun hh => ih hh) h)
set_option maxRecDepth 100000 in
set_option maxHeartbeats 4000000 in
theorem w_X11_orderPartAt {sh : List gb_Sh} {g : gb_G}  {o : (gb_G × Int32)} (h : f_X11_orderPartAt sh g = some o) : gb_Fr (fun _ _ => False) g o.1 := by
  unfold f_X11_orderPartAt at h
  have Fg : gb_Fr (fun _ _ => False) g g := gb_Fr.rf
  exact gb_Fr.tr Fg (w_X11_orderPartAt_4 _ h)
set_option maxRecDepth 100000 in
set_option maxHeartbeats 4000000 in
theorem w_X11_openBracket_15 {sh : List gb_Sh} {y1 : Int32} {z0 : Int32} {g : gb_G}  {o : (gb_G)} (h : f_X11_openBracket_15 sh g y1 z0 = some o) : gb_Fr (fun c k => (c = 77 ∧ k = 14) ∨ (c = 77 ∧ k = 15) ∨ (c = 77 ∧ k = 16) ∨ (c = 77 ∧ k = 17) ∨ (c = 77 ∧ k = 18) ∨ (c = 77 ∧ k = 19) ∨ (c = 77 ∧ k = 29) ∨ (c = 77 ∧ k = 30) ∨ c = 90 ∨ c = 91) g o := by
  unfold f_X11_openBracket_15 at h
  have Fg : gb_Fr (fun c k => (c = 77 ∧ k = 14) ∨ (c = 77 ∧ k = 15) ∨ (c = 77 ∧ k = 16) ∨ (c = 77 ∧ k = 17) ∨ (c = 77 ∧ k = 18) ∨ (c = 77 ∧ k = 19) ∨ (c = 77 ∧ k = 29) ∨ (c = 77 ∧ k = 30) ∨ c = 90 ∨ c = 91) g g := gb_Fr.rf
  obtain ⟨r1, er1, h⟩ := gb_bd_e h
  have Fr1 := gb_Fr.tr Fg (gb_Fr.up (w_X11_must er1) (fun _ _ hw => hw.elim (fun h0 => Or.inl (h0)) (fun h0 => h0.elim (fun h1 => Or.inr (Or.inl (h1))) (fun h1 => h1.elim (fun h2 => Or.inr (Or.inr (Or.inl (h2)))) (fun h2 => h2.elim (fun h3 => Or.inr (Or.inr (Or.inr (Or.inl (h3))))) (fun h3 => h3.elim (fun h4 => Or.inr (Or.inr (Or.inr (Or.inr (Or.inl (h4)))))) (fun h4 => Or.inr (Or.inr (Or.inr (Or.inr (Or.inr (Or.inl (h4)))))))))))))
  rcases gb_ite_e h with h | h
  · obtain ⟨g3, eg3, h⟩ := gb_let_x h
    have Fg3 := gb_Fr.tr Fr1 (gb_Fr.pi (Or.inr (Or.inr (Or.inr (Or.inr (Or.inr (Or.inr (Or.inr (Or.inl (⟨rfl, rfl⟩))))))))) eg3)
    obtain ⟨r4, er4, h⟩ := gb_bd_e h
    have Fr4 := gb_Fr.tr Fg3 (gb_Fr.up (w_X11_push er4) (fun _ _ hw => hw.elim (fun h0 => Or.inr (Or.inr (Or.inr (Or.inr (Or.inr (Or.inr (Or.inl (h0)))))))) (fun h0 => h0.elim (fun h1 => Or.inr (Or.inr (Or.inr (Or.inr (Or.inr (Or.inr (Or.inr (Or.inr (Or.inl (h1)))))))))) (fun h1 => Or.inr (Or.inr (Or.inr (Or.inr (Or.inr (Or.inr (Or.inr (Or.inr (Or.inr (h1)))))))))))))
    cases h
    exact Fr4
  · cases h
    exact Fr1
set_option maxRecDepth 100000 in
set_option maxHeartbeats 4000000 in
theorem w_X11_openBracket {sh : List gb_Sh} {x1 : Int32} {g : gb_G}  {o : (gb_G)} (h : f_X11_openBracket sh g x1 = some o) : gb_Fr (fun c k => (c = 77 ∧ k = 14) ∨ (c = 77 ∧ k = 15) ∨ (c = 77 ∧ k = 16) ∨ (c = 77 ∧ k = 17) ∨ (c = 77 ∧ k = 18) ∨ (c = 77 ∧ k = 19) ∨ (c = 77 ∧ k = 29) ∨ (c = 77 ∧ k = 30) ∨ c = 90 ∨ c = 91) g o := by
  unfold f_X11_openBracket at h
  have Fg : gb_Fr (fun c k => (c = 77 ∧ k = 14) ∨ (c = 77 ∧ k = 15) ∨ (c = 77 ∧ k = 16) ∨ (c = 77 ∧ k = 17) ∨ (c = 77 ∧ k = 18) ∨ (c = 77 ∧ k = 19) ∨ (c = 77 ∧ k = 29) ∨ (c = 77 ∧ k = 30) ∨ c = 90 ∨ c = 91) g g := gb_Fr.rf
  rcases gb_ite_e h with h | h
  · exact gb_Fr.tr Fg (w_X11_openBracket_15 h)
  · exact gb_Fr.tr Fg (w_X11_openBracket_15 h)
set_option maxRecDepth 100000 in
set_option maxHeartbeats 4000000 in
theorem w_X11_leaf_19 {sh : List gb_Sh} {y2 : Int32} {y3 : Int32} {z0 : Int32} {g : gb_G}  {o : (gb_G)} (h : f_X11_leaf_19 sh g y2 y3 z0 = some o) : gb_Fr (fun c k => (c = 77 ∧ k = 14) ∨ (c = 77 ∧ k = 15) ∨ (c = 77 ∧ k = 16) ∨ (c = 77 ∧ k = 17) ∨ (c = 77 ∧ k = 18) ∨ (c = 77 ∧ k = 19) ∨ (c = 77 ∧ k = 23) ∨ (c = 77 ∧ k = 26) ∨ c = 88 ∨ c = 89) g o := by
  unfold f_X11_leaf_19 at h
  have Fg : gb_Fr (fun c k => (c = 77 ∧ k = 14) ∨ (c = 77 ∧ k = 15) ∨ (c = 77 ∧ k = 16) ∨ (c = 77 ∧ k = 17) ∨ (c = 77 ∧ k = 18) ∨ (c = 77 ∧ k = 19) ∨ (c = 77 ∧ k = 23) ∨ (c = 77 ∧ k = 26) ∨ c = 88 ∨ c = 89) g g := gb_Fr.rf
  obtain ⟨r1, er1, h⟩ := gb_bd_e h
  have Fr1 := gb_Fr.tr Fg (gb_Fr.up (w_X11_must er1) (fun _ _ hw => hw.elim (fun h0 => Or.inl (h0)) (fun h0 => h0.elim (fun h1 => Or.inr (Or.inl (h1))) (fun h1 => h1.elim (fun h2 => Or.inr (Or.inr (Or.inl (h2)))) (fun h2 => h2.elim (fun h3 => Or.inr (Or.inr (Or.inr (Or.inl (h3))))) (fun h3 => h3.elim (fun h4 => Or.inr (Or.inr (Or.inr (Or.inr (Or.inl (h4)))))) (fun h4 => Or.inr (Or.inr (Or.inr (Or.inr (Or.inr (Or.inl (h4)))))))))))))
  rcases gb_ite_e h with h | h
  · obtain ⟨r3, er3, h⟩ := gb_bd_e h
    have Fr3 := gb_Fr.tr Fr1 (gb_Fr.up (w_X11_emit er3) (fun _ _ hw => hw.elim (fun h0 => Or.inr (Or.inr (Or.inr (Or.inr (Or.inr (Or.inr (Or.inl (h0)))))))) (fun h0 => h0.elim (fun h1 => Or.inr (Or.inr (Or.inr (Or.inr (Or.inr (Or.inr (Or.inr (Or.inr (Or.inl (h1)))))))))) (fun h1 => Or.inr (Or.inr (Or.inr (Or.inr (Or.inr (Or.inr (Or.inr (Or.inr (Or.inr (h1)))))))))))))
    obtain ⟨g5, eg5, h⟩ := gb_let_x h
    have Fg5 := gb_Fr.tr Fr3 (gb_Fr.pi (Or.inr (Or.inr (Or.inr (Or.inr (Or.inr (Or.inr (Or.inr (Or.inl (⟨rfl, rfl⟩))))))))) eg5)
    cases h
    exact Fg5
  · cases h
    exact Fr1
set_option maxRecDepth 100000 in
set_option maxHeartbeats 4000000 in
theorem w_X11_leaf {sh : List gb_Sh} {x1 : Int32} {x2 : Int32} {x3 : Int32} {g : gb_G}  {o : (gb_G)} (h : f_X11_leaf sh g x1 x2 x3 = some o) : gb_Fr (fun c k => (c = 77 ∧ k = 14) ∨ (c = 77 ∧ k = 15) ∨ (c = 77 ∧ k = 16) ∨ (c = 77 ∧ k = 17) ∨ (c = 77 ∧ k = 18) ∨ (c = 77 ∧ k = 19) ∨ (c = 77 ∧ k = 23) ∨ (c = 77 ∧ k = 26) ∨ c = 88 ∨ c = 89) g o := by
  unfold f_X11_leaf at h
  have Fg : gb_Fr (fun c k => (c = 77 ∧ k = 14) ∨ (c = 77 ∧ k = 15) ∨ (c = 77 ∧ k = 16) ∨ (c = 77 ∧ k = 17) ∨ (c = 77 ∧ k = 18) ∨ (c = 77 ∧ k = 19) ∨ (c = 77 ∧ k = 23) ∨ (c = 77 ∧ k = 26) ∨ c = 88 ∨ c = 89) g g := gb_Fr.rf
  rcases gb_ite_e h with h | h
  · exact gb_Fr.tr Fg (w_X11_leaf_19 h)
  · rcases gb_ite_e h with h | h
    · exact gb_Fr.tr Fg (w_X11_leaf_19 h)
    · exact gb_Fr.tr Fg (w_X11_leaf_19 h)
set_option maxRecDepth 100000 in
set_option maxHeartbeats 4000000 in
theorem w_X11_readPart_99 {sh : List gb_Sh} {y1 : Int32} {z0 : Int32} {z1 : Int32} {z2 : Int32} {g : gb_G}  {o : (gb_G × Int32)} (h : f_X11_readPart_99 sh g y1 z0 z1 z2 = some o) : gb_Fr (fun c k => (c = 77 ∧ k = 14) ∨ (c = 77 ∧ k = 15) ∨ (c = 77 ∧ k = 16) ∨ (c = 77 ∧ k = 17) ∨ (c = 77 ∧ k = 18) ∨ (c = 77 ∧ k = 19) ∨ (c = 77 ∧ k = 23) ∨ (c = 77 ∧ k = 26) ∨ (c = 77 ∧ k = 29) ∨ (c = 77 ∧ k = 30) ∨ c = 88 ∨ c = 89 ∨ c = 90 ∨ c = 91) g o.1 := by
  unfold f_X11_readPart_99 at h
  have Fg : gb_Fr (fun c k => (c = 77 ∧ k = 14) ∨ (c = 77 ∧ k = 15) ∨ (c = 77 ∧ k = 16) ∨ (c = 77 ∧ k = 17) ∨ (c = 77 ∧ k = 18) ∨ (c = 77 ∧ k = 19) ∨ (c = 77 ∧ k = 23) ∨ (c = 77 ∧ k = 26) ∨ (c = 77 ∧ k = 29) ∨ (c = 77 ∧ k = 30) ∨ c = 88 ∨ c = 89 ∨ c = 90 ∨ c = 91) g g := gb_Fr.rf
  obtain ⟨r5, er5, h⟩ := gb_bd_e h
  have Fr5 := gb_Fr.tr Fg (gb_Fr.up (w_X11_leaf er5) (fun _ _ hw => hw.elim (fun h0 => Or.inl (h0)) (fun h0 => h0.elim (fun h1 => Or.inr (Or.inl (h1))) (fun h1 => h1.elim (fun h2 => Or.inr (Or.inr (Or.inl (h2)))) (fun h2 => h2.elim (fun h3 => Or.inr (Or.inr (Or.inr (Or.inl (h3))))) (fun h3 => h3.elim (fun h4 => Or.inr (Or.inr (Or.inr (Or.inr (Or.inl (h4)))))) (fun h4 => h4.elim (fun h5 => Or.inr (Or.inr (Or.inr (Or.inr (Or.inr (Or.inl (h5))))))) (fun h5 => h5.elim (fun h6 => Or.inr (Or.inr (Or.inr (Or.inr (Or.inr (Or.inr (Or.inl (h6)))))))) (fun h6 => h6.elim (fun h7 => Or.inr (Or.inr (Or.inr (Or.inr (Or.inr (Or.inr (Or.inr (Or.inl (h7))))))))) (fun h7 => h7.elim (fun h8 => Or.inr (Or.inr (Or.inr (Or.inr (Or.inr (Or.inr (Or.inr (Or.inr (Or.inr (Or.inr (Or.inl (h8)))))))))))) (fun h8 => Or.inr (Or.inr (Or.inr (Or.inr (Or.inr (Or.inr (Or.inr (Or.inr (Or.inr (Or.inr (Or.inr (Or.inl (h8)))))))))))))))))))))))
  rcases gb_ite_e h with h | h
  · cases h
    exact Fr5
  · rcases gb_ite_e h with h | h
    · cases h
      exact Fr5
    · rcases gb_ite_e h with h | h
      · obtain ⟨r7, er7, h⟩ := gb_bd_e h
        have Fr7 := gb_Fr.tr Fr5 (gb_Fr.up (w_X11_number er7) (fun _ _ hw => hw.elim (fun h0 => Or.inl (h0)) (fun h0 => h0.elim (fun h1 => Or.inr (Or.inl (h1))) (fun h1 => h1.elim (fun h2 => Or.inr (Or.inr (Or.inl (h2)))) (fun h2 => h2.elim (fun h3 => Or.inr (Or.inr (Or.inr (Or.inl (h3))))) (fun h3 => h3.elim (fun h4 => Or.inr (Or.inr (Or.inr (Or.inr (Or.inl (h4)))))) (fun h4 => Or.inr (Or.inr (Or.inr (Or.inr (Or.inr (Or.inl (h4)))))))))))))
        obtain ⟨-, h⟩ := gb_ck_e h
        obtain ⟨g10, eg10, h⟩ := gb_let_x h
        have Fg10 := gb_Fr.tr Fr7 (gb_Fr.pi (Or.inr (Or.inr (Or.inr (Or.inr (Or.inr (Or.inr (Or.inr (Or.inr (Or.inr (Or.inr (Or.inr (Or.inl (rfl))))))))))))) eg10)
        cases h
        exact Fg10
      · cases h
        exact Fr5
set_option maxRecDepth 100000 in
set_option maxHeartbeats 4000000 in
theorem w_X11_readPart_86 {sh : List gb_Sh} {y1 : Int32} {y2 : Int32} {z0 : Int32} {z1 : Int32} {g : gb_G}  {o : (gb_G × Int32)} (h : f_X11_readPart_86 sh g y1 y2 z0 z1 = some o) : gb_Fr (fun c k => (c = 77 ∧ k = 14) ∨ (c = 77 ∧ k = 15) ∨ (c = 77 ∧ k = 16) ∨ (c = 77 ∧ k = 17) ∨ (c = 77 ∧ k = 18) ∨ (c = 77 ∧ k = 19) ∨ (c = 77 ∧ k = 23) ∨ (c = 77 ∧ k = 26) ∨ (c = 77 ∧ k = 29) ∨ (c = 77 ∧ k = 30) ∨ c = 88 ∨ c = 89 ∨ c = 90 ∨ c = 91) g o.1 := by
  unfold f_X11_readPart_86 at h
  have Fg : gb_Fr (fun c k => (c = 77 ∧ k = 14) ∨ (c = 77 ∧ k = 15) ∨ (c = 77 ∧ k = 16) ∨ (c = 77 ∧ k = 17) ∨ (c = 77 ∧ k = 18) ∨ (c = 77 ∧ k = 19) ∨ (c = 77 ∧ k = 23) ∨ (c = 77 ∧ k = 26) ∨ (c = 77 ∧ k = 29) ∨ (c = 77 ∧ k = 30) ∨ c = 88 ∨ c = 89 ∨ c = 90 ∨ c = 91) g g := gb_Fr.rf
  rcases gb_ite_e h with h | h
  · exact gb_Fr.tr Fg (w_X11_readPart_99 h)
  · exact gb_Fr.tr Fg (w_X11_readPart_99 h)
set_option maxRecDepth 100000 in
set_option maxHeartbeats 4000000 in
theorem w_X11_readPart_76 {sh : List gb_Sh} {y1 : Int32} {y2 : Int32} {z0 : Int32} {g : gb_G}  {o : (gb_G × Int32)} (h : f_X11_readPart_76 sh g y1 y2 z0 = some o) : gb_Fr (fun c k => (c = 77 ∧ k = 14) ∨ (c = 77 ∧ k = 15) ∨ (c = 77 ∧ k = 16) ∨ (c = 77 ∧ k = 17) ∨ (c = 77 ∧ k = 18) ∨ (c = 77 ∧ k = 19) ∨ (c = 77 ∧ k = 23) ∨ (c = 77 ∧ k = 26) ∨ (c = 77 ∧ k = 29) ∨ (c = 77 ∧ k = 30) ∨ c = 88 ∨ c = 89 ∨ c = 90 ∨ c = 91) g o.1 := by
  unfold f_X11_readPart_76 at h
  have Fg : gb_Fr (fun c k => (c = 77 ∧ k = 14) ∨ (c = 77 ∧ k = 15) ∨ (c = 77 ∧ k = 16) ∨ (c = 77 ∧ k = 17) ∨ (c = 77 ∧ k = 18) ∨ (c = 77 ∧ k = 19) ∨ (c = 77 ∧ k = 23) ∨ (c = 77 ∧ k = 26) ∨ (c = 77 ∧ k = 29) ∨ (c = 77 ∧ k = 30) ∨ c = 88 ∨ c = 89 ∨ c = 90 ∨ c = 91) g g := gb_Fr.rf
  rcases gb_ite_e h with h | h
  · exact gb_Fr.tr Fg (w_X11_readPart_86 h)
  · exact gb_Fr.tr Fg (w_X11_readPart_86 h)
set_option maxRecDepth 100000 in
set_option maxHeartbeats 4000000 in
theorem w_X11_readPart_60 {sh : List gb_Sh} {y1 : Int32} {z0 : Int32} {g : gb_G}  {o : (gb_G × Int32)} (h : f_X11_readPart_60 sh g y1 z0 = some o) : gb_Fr (fun c k => (c = 77 ∧ k = 14) ∨ (c = 77 ∧ k = 15) ∨ (c = 77 ∧ k = 16) ∨ (c = 77 ∧ k = 17) ∨ (c = 77 ∧ k = 18) ∨ (c = 77 ∧ k = 19) ∨ (c = 77 ∧ k = 23) ∨ (c = 77 ∧ k = 26) ∨ (c = 77 ∧ k = 29) ∨ (c = 77 ∧ k = 30) ∨ c = 88 ∨ c = 89 ∨ c = 90 ∨ c = 91) g o.1 := by
  unfold f_X11_readPart_60 at h
  have Fg : gb_Fr (fun c k => (c = 77 ∧ k = 14) ∨ (c = 77 ∧ k = 15) ∨ (c = 77 ∧ k = 16) ∨ (c = 77 ∧ k = 17) ∨ (c = 77 ∧ k = 18) ∨ (c = 77 ∧ k = 19) ∨ (c = 77 ∧ k = 23) ∨ (c = 77 ∧ k = 26) ∨ (c = 77 ∧ k = 29) ∨ (c = 77 ∧ k = 30) ∨ c = 88 ∨ c = 89 ∨ c = 90 ∨ c = 91) g g := gb_Fr.rf
  rcases gb_ite_e h with h | h
  · rcases gb_ite_e h with h | h
    · exact gb_Fr.tr Fg (w_X11_readPart_76 h)
    · exact gb_Fr.tr Fg (w_X11_readPart_76 h)
  · exact gb_Fr.tr Fg (w_X11_readPart_76 h)
set_option maxRecDepth 100000 in
set_option maxHeartbeats 4000000 in
theorem w_X11_readPart_35 {sh : List gb_Sh} {z0 : Int32} {g : gb_G}  {o : (gb_G × Int32)} (h : f_X11_readPart_35 sh g z0 = some o) : gb_Fr (fun c k => (c = 77 ∧ k = 14) ∨ (c = 77 ∧ k = 15) ∨ (c = 77 ∧ k = 16) ∨ (c = 77 ∧ k = 17) ∨ (c = 77 ∧ k = 18) ∨ (c = 77 ∧ k = 19) ∨ (c = 77 ∧ k = 23) ∨ (c = 77 ∧ k = 26) ∨ (c = 77 ∧ k = 29) ∨ (c = 77 ∧ k = 30) ∨ c = 88 ∨ c = 89 ∨ c = 90 ∨ c = 91) g o.1 := by
  unfold f_X11_readPart_35 at h
  have Fg : gb_Fr (fun c k => (c = 77 ∧ k = 14) ∨ (c = 77 ∧ k = 15) ∨ (c = 77 ∧ k = 16) ∨ (c = 77 ∧ k = 17) ∨ (c = 77 ∧ k = 18) ∨ (c = 77 ∧ k = 19) ∨ (c = 77 ∧ k = 23) ∨ (c = 77 ∧ k = 26) ∨ (c = 77 ∧ k = 29) ∨ (c = 77 ∧ k = 30) ∨ c = 88 ∨ c = 89 ∨ c = 90 ∨ c = 91) g g := gb_Fr.rf
  rcases gb_ite_e h with h | h
  · rcases gb_ite_e h with h | h
    · exact gb_Fr.tr Fg (w_X11_readPart_60 h)
    · exact gb_Fr.tr Fg (w_X11_readPart_60 h)
  · exact gb_Fr.tr Fg (w_X11_readPart_60 h)
set_option maxRecDepth 100000 in
set_option maxHeartbeats 4000000 in
theorem w_X11_readPart {sh : List gb_Sh} {g : gb_G}  {o : (gb_G × Int32)} (h : f_X11_readPart sh g = some o) : gb_Fr (fun c k => (c = 77 ∧ k = 14) ∨ (c = 77 ∧ k = 15) ∨ (c = 77 ∧ k = 16) ∨ (c = 77 ∧ k = 17) ∨ (c = 77 ∧ k = 18) ∨ (c = 77 ∧ k = 19) ∨ (c = 77 ∧ k = 23) ∨ (c = 77 ∧ k = 26) ∨ (c = 77 ∧ k = 29) ∨ (c = 77 ∧ k = 30) ∨ c = 88 ∨ c = 89 ∨ c = 90 ∨ c = 91) g o.1 := by
  unfold f_X11_readPart at h
  have Fg : gb_Fr (fun c k => (c = 77 ∧ k = 14) ∨ (c = 77 ∧ k = 15) ∨ (c = 77 ∧ k = 16) ∨ (c = 77 ∧ k = 17) ∨ (c = 77 ∧ k = 18) ∨ (c = 77 ∧ k = 19) ∨ (c = 77 ∧ k = 23) ∨ (c = 77 ∧ k = 26) ∨ (c = 77 ∧ k = 29) ∨ (c = 77 ∧ k = 30) ∨ c = 88 ∨ c = 89 ∨ c = 90 ∨ c = 91) g g := gb_Fr.rf
  obtain ⟨r1, er1, h⟩ := gb_bd_e h
  have Fr1 := gb_Fr.tr Fg (gb_Fr.up (w_X11_isSign er1) (fun _ _ hw => hw.elim))
  rcases gb_ite_e h with h | h
  · rcases gb_ite_e h with h | h
    · obtain ⟨r3, er3, h⟩ := gb_bd_e h
      have Fr3 := gb_Fr.tr Fr1 (gb_Fr.up (w_X11_partAt er3) (fun _ _ hw => hw.elim))
      exact gb_Fr.tr Fr3 (w_X11_readPart_35 h)
    · obtain ⟨r11, er11, h⟩ := gb_bd_e h
      have Fr11 := gb_Fr.tr Fr1 (gb_Fr.up (w_X11_orderPartAt er11) (fun _ _ hw => hw.elim))
      exact gb_Fr.tr Fr11 (w_X11_readPart_35 h)
  · obtain ⟨r13, er13, h⟩ := gb_bd_e h
    have Fr13 := gb_Fr.tr Fr1 (gb_Fr.up (w_X11_openBracket er13) (fun _ _ hw => hw.elim (fun h0 => Or.inl (h0)) (fun h0 => h0.elim (fun h1 => Or.inr (Or.inl (h1))) (fun h1 => h1.elim (fun h2 => Or.inr (Or.inr (Or.inl (h2)))) (fun h2 => h2.elim (fun h3 => Or.inr (Or.inr (Or.inr (Or.inl (h3))))) (fun h3 => h3.elim (fun h4 => Or.inr (Or.inr (Or.inr (Or.inr (Or.inl (h4)))))) (fun h4 => h4.elim (fun h5 => Or.inr (Or.inr (Or.inr (Or.inr (Or.inr (Or.inl (h5))))))) (fun h5 => h5.elim (fun h6 => Or.inr (Or.inr (Or.inr (Or.inr (Or.inr (Or.inr (Or.inr (Or.inr (Or.inl (h6)))))))))) (fun h6 => h6.elim (fun h7 => Or.inr (Or.inr (Or.inr (Or.inr (Or.inr (Or.inr (Or.inr (Or.inr (Or.inr (Or.inl (h7))))))))))) (fun h7 => h7.elim (fun h8 => Or.inr (Or.inr (Or.inr (Or.inr (Or.inr (Or.inr (Or.inr (Or.inr (Or.inr (Or.inr (Or.inr (Or.inr (Or.inl (h8)))))))))))))) (fun h8 => Or.inr (Or.inr (Or.inr (Or.inr (Or.inr (Or.inr (Or.inr (Or.inr (Or.inr (Or.inr (Or.inr (Or.inr (Or.inr (h8))))))))))))))))))))))))
    cases h
    exact Fr13
set_option maxRecDepth 100000 in
set_option maxHeartbeats 4000000 in
theorem w_X11_readPlain {sh : List gb_Sh} {g : gb_G}  {o : (gb_G × Int32)} (h : f_X11_readPlain sh g = some o) : gb_Fr (fun c k => (c = 77 ∧ k = 14) ∨ (c = 77 ∧ k = 15) ∨ (c = 77 ∧ k = 16) ∨ (c = 77 ∧ k = 17) ∨ (c = 77 ∧ k = 18) ∨ (c = 77 ∧ k = 19) ∨ (c = 77 ∧ k = 23) ∨ (c = 77 ∧ k = 26) ∨ (c = 77 ∧ k = 29) ∨ (c = 77 ∧ k = 30) ∨ c = 88 ∨ c = 89 ∨ c = 90 ∨ c = 91) g o.1 := by
  unfold f_X11_readPlain at h
  have Fg : gb_Fr (fun c k => (c = 77 ∧ k = 14) ∨ (c = 77 ∧ k = 15) ∨ (c = 77 ∧ k = 16) ∨ (c = 77 ∧ k = 17) ∨ (c = 77 ∧ k = 18) ∨ (c = 77 ∧ k = 19) ∨ (c = 77 ∧ k = 23) ∨ (c = 77 ∧ k = 26) ∨ (c = 77 ∧ k = 29) ∨ (c = 77 ∧ k = 30) ∨ c = 88 ∨ c = 89 ∨ c = 90 ∨ c = 91) g g := gb_Fr.rf
  obtain ⟨r1, er1, h⟩ := gb_bd_e h
  have Fr1 := gb_Fr.tr Fg (gb_Fr.up (w_X11_isWord er1) (fun _ _ hw => hw.elim))
  rcases gb_ite_e h with h | h
  · obtain ⟨r3, er3, h⟩ := gb_bd_e h
    have Fr3 := gb_Fr.tr Fr1 (gb_Fr.up (w_X11_isSign er3) (fun _ _ hw => hw.elim))
    rcases gb_ite_e h with h | h
    · obtain ⟨r5, er5, h⟩ := gb_bd_e h
      have Fr5 := gb_Fr.tr Fr3 (gb_Fr.up (w_X11_readPart er5) (fun _ _ hw => hw.elim (fun h0 => Or.inl (h0)) (fun h0 => h0.elim (fun h1 => Or.inr (Or.inl (h1))) (fun h1 => h1.elim (fun h2 => Or.inr (Or.inr (Or.inl (h2)))) (fun h2 => h2.elim (fun h3 => Or.inr (Or.inr (Or.inr (Or.inl (h3))))) (fun h3 => h3.elim (fun h4 => Or.inr (Or.inr (Or.inr (Or.inr (Or.inl (h4)))))) (fun h4 => h4.elim (fun h5 => Or.inr (Or.inr (Or.inr (Or.inr (Or.inr (Or.inl (h5))))))) (fun h5 => h5.elim (fun h6 => Or.inr (Or.inr (Or.inr (Or.inr (Or.inr (Or.inr (Or.inl (h6)))))))) (fun h6 => h6.elim (fun h7 => Or.inr (Or.inr (Or.inr (Or.inr (Or.inr (Or.inr (Or.inr (Or.inl (h7))))))))) (fun h7 => h7.elim (fun h8 => Or.inr (Or.inr (Or.inr (Or.inr (Or.inr (Or.inr (Or.inr (Or.inr (Or.inl (h8)))))))))) (fun h8 => h8.elim (fun h9 => Or.inr (Or.inr (Or.inr (Or.inr (Or.inr (Or.inr (Or.inr (Or.inr (Or.inr (Or.inl (h9))))))))))) (fun h9 => h9.elim (fun h10 => Or.inr (Or.inr (Or.inr (Or.inr (Or.inr (Or.inr (Or.inr (Or.inr (Or.inr (Or.inr (Or.inl (h10)))))))))))) (fun h10 => h10.elim (fun h11 => Or.inr (Or.inr (Or.inr (Or.inr (Or.inr (Or.inr (Or.inr (Or.inr (Or.inr (Or.inr (Or.inr (Or.inl (h11))))))))))))) (fun h11 => h11.elim (fun h12 => Or.inr (Or.inr (Or.inr (Or.inr (Or.inr (Or.inr (Or.inr (Or.inr (Or.inr (Or.inr (Or.inr (Or.inr (Or.inl (h12)))))))))))))) (fun h12 => Or.inr (Or.inr (Or.inr (Or.inr (Or.inr (Or.inr (Or.inr (Or.inr (Or.inr (Or.inr (Or.inr (Or.inr (Or.inr (h12))))))))))))))))))))))))))))
      cases h
      exact Fr5
    · obtain ⟨r7, er7, h⟩ := gb_bd_e h
      have Fr7 := gb_Fr.tr Fr3 (gb_Fr.up (w_X11_openBracket er7) (fun _ _ hw => hw.elim (fun h0 => Or.inl (h0)) (fun h0 => h0.elim (fun h1 => Or.inr (Or.inl (h1))) (fun h1 => h1.elim (fun h2 => Or.inr (Or.inr (Or.inl (h2)))) (fun h2 => h2.elim (fun h3 => Or.inr (Or.inr (Or.inr (Or.inl (h3))))) (fun h3 => h3.elim (fun h4 => Or.inr (Or.inr (Or.inr (Or.inr (Or.inl (h4)))))) (fun h4 => h4.elim (fun h5 => Or.inr (Or.inr (Or.inr (Or.inr (Or.inr (Or.inl (h5))))))) (fun h5 => h5.elim (fun h6 => Or.inr (Or.inr (Or.inr (Or.inr (Or.inr (Or.inr (Or.inr (Or.inr (Or.inl (h6)))))))))) (fun h6 => h6.elim (fun h7 => Or.inr (Or.inr (Or.inr (Or.inr (Or.inr (Or.inr (Or.inr (Or.inr (Or.inr (Or.inl (h7))))))))))) (fun h7 => h7.elim (fun h8 => Or.inr (Or.inr (Or.inr (Or.inr (Or.inr (Or.inr (Or.inr (Or.inr (Or.inr (Or.inr (Or.inr (Or.inr (Or.inl (h8)))))))))))))) (fun h8 => Or.inr (Or.inr (Or.inr (Or.inr (Or.inr (Or.inr (Or.inr (Or.inr (Or.inr (Or.inr (Or.inr (Or.inr (Or.inr (h8))))))))))))))))))))))))
      cases h
      exact Fr7
  · obtain ⟨r9, er9, h⟩ := gb_bd_e h
    have Fr9 := gb_Fr.tr Fr1 (gb_Fr.up (w_X11_push er9) (fun _ _ hw => hw.elim (fun h0 => Or.inr (Or.inr (Or.inr (Or.inr (Or.inr (Or.inr (Or.inr (Or.inr (Or.inl (h0)))))))))) (fun h0 => h0.elim (fun h1 => Or.inr (Or.inr (Or.inr (Or.inr (Or.inr (Or.inr (Or.inr (Or.inr (Or.inr (Or.inr (Or.inr (Or.inr (Or.inl (h1)))))))))))))) (fun h1 => Or.inr (Or.inr (Or.inr (Or.inr (Or.inr (Or.inr (Or.inr (Or.inr (Or.inr (Or.inr (Or.inr (Or.inr (Or.inr (h1)))))))))))))))))
    obtain ⟨r11, er11, h⟩ := gb_bd_e h
    have Fr11 := gb_Fr.tr Fr9 (gb_Fr.up (w_X11_next er11) (fun _ _ hw => hw.elim (fun h0 => Or.inl (h0)) (fun h0 => h0.elim (fun h1 => Or.inr (Or.inl (h1))) (fun h1 => h1.elim (fun h2 => Or.inr (Or.inr (Or.inl (h2)))) (fun h2 => Or.inr (Or.inr (Or.inr (Or.inl (h2)))))))))
    cases h
    exact Fr11
set_option maxRecDepth 100000 in
set_option maxHeartbeats 4000000 in
theorem w_X11_behindSum_224 {sh : List gb_Sh} {y2 : Int32} {z0 : Int32} {g : gb_G}  {o : (gb_G × Int32)} (h : f_X11_behindSum_224 sh g y2 z0 = some o) : gb_Fr (fun c k => (c = 77 ∧ k = 14) ∨ (c = 77 ∧ k = 15) ∨ (c = 77 ∧ k = 16) ∨ (c = 77 ∧ k = 17) ∨ (c = 77 ∧ k = 18) ∨ (c = 77 ∧ k = 19) ∨ (c = 77 ∧ k = 23) ∨ (c = 77 ∧ k = 29) ∨ (c = 77 ∧ k = 30) ∨ c = 88 ∨ c = 89 ∨ c = 90 ∨ c = 91) g o.1 := by
  unfold f_X11_behindSum_224 at h
  have Fg : gb_Fr (fun c k => (c = 77 ∧ k = 14) ∨ (c = 77 ∧ k = 15) ∨ (c = 77 ∧ k = 16) ∨ (c = 77 ∧ k = 17) ∨ (c = 77 ∧ k = 18) ∨ (c = 77 ∧ k = 19) ∨ (c = 77 ∧ k = 23) ∨ (c = 77 ∧ k = 29) ∨ (c = 77 ∧ k = 30) ∨ c = 88 ∨ c = 89 ∨ c = 90 ∨ c = 91) g g := gb_Fr.rf
  obtain ⟨r19, er19, h⟩ := gb_bd_e h
  have Fr19 := gb_Fr.tr Fg (gb_Fr.up (w_X11_must er19) (fun _ _ hw => hw.elim (fun h0 => Or.inl (h0)) (fun h0 => h0.elim (fun h1 => Or.inr (Or.inl (h1))) (fun h1 => h1.elim (fun h2 => Or.inr (Or.inr (Or.inl (h2)))) (fun h2 => h2.elim (fun h3 => Or.inr (Or.inr (Or.inr (Or.inl (h3))))) (fun h3 => h3.elim (fun h4 => Or.inr (Or.inr (Or.inr (Or.inr (Or.inl (h4)))))) (fun h4 => Or.inr (Or.inr (Or.inr (Or.inr (Or.inr (Or.inl (h4)))))))))))))
  rcases gb_ite_e h with h | h
  · obtain ⟨r21, er21, h⟩ := gb_bd_e h
    have Fr21 := gb_Fr.tr Fr19 (gb_Fr.up (w_X11_settle er21) (fun _ _ hw => hw.elim (fun h0 => Or.inr (Or.inr (Or.inr (Or.inr (Or.inr (Or.inr (Or.inl (h0)))))))) (fun h0 => h0.elim (fun h1 => Or.inr (Or.inr (Or.inr (Or.inr (Or.inr (Or.inr (Or.inr (Or.inl (h1))))))))) (fun h1 => h1.elim (fun h2 => Or.inr (Or.inr (Or.inr (Or.inr (Or.inr (Or.inr (Or.inr (Or.inr (Or.inr (Or.inl (h2))))))))))) (fun h2 => Or.inr (Or.inr (Or.inr (Or.inr (Or.inr (Or.inr (Or.inr (Or.inr (Or.inr (Or.inr (Or.inl (h2))))))))))))))))
    obtain ⟨r23, er23, h⟩ := gb_bd_e h
    have Fr23 := gb_Fr.tr Fr21 (gb_Fr.up (w_X11_push er23) (fun _ _ hw => hw.elim (fun h0 => Or.inr (Or.inr (Or.inr (Or.inr (Or.inr (Or.inr (Or.inr (Or.inl (h0))))))))) (fun h0 => h0.elim (fun h1 => Or.inr (Or.inr (Or.inr (Or.inr (Or.inr (Or.inr (Or.inr (Or.inr (Or.inr (Or.inr (Or.inr (Or.inl (h1))))))))))))) (fun h1 => Or.inr (Or.inr (Or.inr (Or.inr (Or.inr (Or.inr (Or.inr (Or.inr (Or.inr (Or.inr (Or.inr (Or.inr (h1))))))))))))))))
    cases h
    exact Fr23
  · cases h
    exact Fr19
set_option maxRecDepth 100000 in
set_option maxHeartbeats 4000000 in
theorem w_X11_behindSum_202 {sh : List gb_Sh} {z0 : Int32} {g : gb_G}  {o : (gb_G × Int32)} (h : f_X11_behindSum_202 sh g z0 = some o) : gb_Fr (fun c k => (c = 77 ∧ k = 14) ∨ (c = 77 ∧ k = 15) ∨ (c = 77 ∧ k = 16) ∨ (c = 77 ∧ k = 17) ∨ (c = 77 ∧ k = 18) ∨ (c = 77 ∧ k = 19) ∨ (c = 77 ∧ k = 23) ∨ (c = 77 ∧ k = 29) ∨ (c = 77 ∧ k = 30) ∨ c = 88 ∨ c = 89 ∨ c = 90 ∨ c = 91) g o.1 := by
  unfold f_X11_behindSum_202 at h
  have Fg : gb_Fr (fun c k => (c = 77 ∧ k = 14) ∨ (c = 77 ∧ k = 15) ∨ (c = 77 ∧ k = 16) ∨ (c = 77 ∧ k = 17) ∨ (c = 77 ∧ k = 18) ∨ (c = 77 ∧ k = 19) ∨ (c = 77 ∧ k = 23) ∨ (c = 77 ∧ k = 29) ∨ (c = 77 ∧ k = 30) ∨ c = 88 ∨ c = 89 ∨ c = 90 ∨ c = 91) g g := gb_Fr.rf
  rcases gb_ite_e h with h | h
  · obtain ⟨r25, er25, h⟩ := gb_bd_e h
    have Fr25 := gb_Fr.tr Fg (gb_Fr.up (w_X11_isSign er25) (fun _ _ hw => hw.elim))
    rcases gb_ite_e h with h | h
    · exact gb_Fr.tr Fr25 (w_X11_behindSum_224 h)
    · exact gb_Fr.tr Fr25 (w_X11_behindSum_224 h)
  · exact gb_Fr.tr Fg (w_X11_behindSum_224 h)
set_option maxRecDepth 100000 in
set_option maxHeartbeats 4000000 in
theorem w_X11_behindSum_163 {sh : List gb_Sh} {g : gb_G}  {o : (gb_G × Int32)} (h : f_X11_behindSum_163 sh g = some o) : gb_Fr (fun c k => (c = 77 ∧ k = 14) ∨ (c = 77 ∧ k = 15) ∨ (c = 77 ∧ k = 16) ∨ (c = 77 ∧ k = 17) ∨ (c = 77 ∧ k = 18) ∨ (c = 77 ∧ k = 19) ∨ (c = 77 ∧ k = 23) ∨ (c = 77 ∧ k = 29) ∨ (c = 77 ∧ k = 30) ∨ c = 88 ∨ c = 89 ∨ c = 90 ∨ c = 91) g o.1 := by
  unfold f_X11_behindSum_163 at h
  have Fg : gb_Fr (fun c k => (c = 77 ∧ k = 14) ∨ (c = 77 ∧ k = 15) ∨ (c = 77 ∧ k = 16) ∨ (c = 77 ∧ k = 17) ∨ (c = 77 ∧ k = 18) ∨ (c = 77 ∧ k = 19) ∨ (c = 77 ∧ k = 23) ∨ (c = 77 ∧ k = 29) ∨ (c = 77 ∧ k = 30) ∨ c = 88 ∨ c = 89 ∨ c = 90 ∨ c = 91) g g := gb_Fr.rf
  obtain ⟨r13, er13, h⟩ := gb_bd_e h
  have Fr13 := gb_Fr.tr Fg (gb_Fr.up (w_X11_isCompared er13) (fun _ _ hw => hw.elim))
  rcases gb_ite_e h with h | h
  · obtain ⟨r15, er15, h⟩ := gb_bd_e h
    have Fr15 := gb_Fr.tr Fr13 (gb_Fr.up (w_X11_isSign er15) (fun _ _ hw => hw.elim))
    rcases gb_ite_e h with h | h
    · obtain ⟨r17, er17, h⟩ := gb_bd_e h
      have Fr17 := gb_Fr.tr Fr15 (gb_Fr.up (w_X11_isSign er17) (fun _ _ hw => hw.elim))
      rcases gb_ite_e h with h | h
      · exact gb_Fr.tr Fr17 (w_X11_behindSum_202 h)
      · exact gb_Fr.tr Fr17 (w_X11_behindSum_202 h)
    · exact gb_Fr.tr Fr15 (w_X11_behindSum_202 h)
  · cases h
    exact Fr13
set_option maxRecDepth 100000 in
set_option maxHeartbeats 4000000 in
theorem w_X11_behindSum_71 {sh : List gb_Sh} {y1 : Int32} {z0 : Int32} {g : gb_G}  {o : (gb_G × Int32)} (h : f_X11_behindSum_71 sh g y1 z0 = some o) : gb_Fr (fun c k => (c = 77 ∧ k = 14) ∨ (c = 77 ∧ k = 15) ∨ (c = 77 ∧ k = 16) ∨ (c = 77 ∧ k = 17) ∨ (c = 77 ∧ k = 18) ∨ (c = 77 ∧ k = 19) ∨ (c = 77 ∧ k = 23) ∨ (c = 77 ∧ k = 29) ∨ (c = 77 ∧ k = 30) ∨ c = 88 ∨ c = 89 ∨ c = 90 ∨ c = 91) g o.1 := by
  unfold f_X11_behindSum_71 at h
  have Fg : gb_Fr (fun c k => (c = 77 ∧ k = 14) ∨ (c = 77 ∧ k = 15) ∨ (c = 77 ∧ k = 16) ∨ (c = 77 ∧ k = 17) ∨ (c = 77 ∧ k = 18) ∨ (c = 77 ∧ k = 19) ∨ (c = 77 ∧ k = 23) ∨ (c = 77 ∧ k = 29) ∨ (c = 77 ∧ k = 30) ∨ c = 88 ∨ c = 89 ∨ c = 90 ∨ c = 91) g g := gb_Fr.rf
  rcases gb_ite_e h with h | h
  · obtain ⟨r11, er11, h⟩ := gb_bd_e h
    have Fr11 := gb_Fr.tr Fg (gb_Fr.up (w_X11_inner er11) (fun _ _ hw => hw.elim))
    rcases gb_ite_e h with h | h
    · obtain ⟨r27, er27, h⟩ := gb_bd_e h
      have Fr27 := gb_Fr.tr Fr11 (gb_Fr.up (w_X11_isSign er27) (fun _ _ hw => hw.elim))
      obtain ⟨r29, er29, h⟩ := gb_bd_e h
      have Fr29 := gb_Fr.tr Fr27 (gb_Fr.up (w_X11_must er29) (fun _ _ hw => hw.elim (fun h0 => Or.inl (h0)) (fun h0 => h0.elim (fun h1 => Or.inr (Or.inl (h1))) (fun h1 => h1.elim (fun h2 => Or.inr (Or.inr (Or.inl (h2)))) (fun h2 => h2.elim (fun h3 => Or.inr (Or.inr (Or.inr (Or.inl (h3))))) (fun h3 => h3.elim (fun h4 => Or.inr (Or.inr (Or.inr (Or.inr (Or.inl (h4)))))) (fun h4 => Or.inr (Or.inr (Or.inr (Or.inr (Or.inr (Or.inl (h4)))))))))))))
      rcases gb_ite_e h with h | h
      · obtain ⟨r31, er31, h⟩ := gb_bd_e h
        have Fr31 := gb_Fr.tr Fr29 (gb_Fr.up (w_X11_settle er31) (fun _ _ hw => hw.elim (fun h0 => Or.inr (Or.inr (Or.inr (Or.inr (Or.inr (Or.inr (Or.inl (h0)))))))) (fun h0 => h0.elim (fun h1 => Or.inr (Or.inr (Or.inr (Or.inr (Or.inr (Or.inr (Or.inr (Or.inl (h1))))))))) (fun h1 => h1.elim (fun h2 => Or.inr (Or.inr (Or.inr (Or.inr (Or.inr (Or.inr (Or.inr (Or.inr (Or.inr (Or.inl (h2))))))))))) (fun h2 => Or.inr (Or.inr (Or.inr (Or.inr (Or.inr (Or.inr (Or.inr (Or.inr (Or.inr (Or.inr (Or.inl (h2))))))))))))))))
        obtain ⟨g33, eg33, h⟩ := gb_let_x h
        have Fg33 := gb_Fr.tr Fr31 (gb_Fr.pi (Or.inr (Or.inr (Or.inr (Or.inr (Or.inr (Or.inr (Or.inr (Or.inl (⟨rfl, rfl⟩))))))))) eg33)
        obtain ⟨g34, eg34, h⟩ := gb_let_x h
        have Fg34 := gb_Fr.tr Fg33 (gb_Fr.pi (Or.inr (Or.inr (Or.inr (Or.inr (Or.inr (Or.inr (Or.inr (Or.inr (Or.inl (⟨rfl, rfl⟩)))))))))) eg34)
        cases h
        exact Fg34
      · cases h
        exact Fr29
    · rcases gb_ite_e h with h | h
      · rcases gb_ite_e h with h | h
        · cases h
          exact Fr11
        · exact gb_Fr.tr Fr11 (w_X11_behindSum_163 h)
      · exact gb_Fr.tr Fr11 (w_X11_behindSum_163 h)
  · obtain ⟨r35, er35, h⟩ := gb_bd_e h
    have Fr35 := gb_Fr.tr Fg (gb_Fr.up (w_X11_binds er35) (fun _ _ hw => hw.elim))
    obtain ⟨r37, er37, h⟩ := gb_bd_e h
    have Fr37 := gb_Fr.tr Fr35 (gb_Fr.up (w_X11_settle er37) (fun _ _ hw => hw.elim (fun h0 => Or.inr (Or.inr (Or.inr (Or.inr (Or.inr (Or.inr (Or.inl (h0)))))))) (fun h0 => h0.elim (fun h1 => Or.inr (Or.inr (Or.inr (Or.inr (Or.inr (Or.inr (Or.inr (Or.inl (h1))))))))) (fun h1 => h1.elim (fun h2 => Or.inr (Or.inr (Or.inr (Or.inr (Or.inr (Or.inr (Or.inr (Or.inr (Or.inr (Or.inl (h2))))))))))) (fun h2 => Or.inr (Or.inr (Or.inr (Or.inr (Or.inr (Or.inr (Or.inr (Or.inr (Or.inr (Or.inr (Or.inl (h2))))))))))))))))
    obtain ⟨r39, er39, h⟩ := gb_bd_e h
    have Fr39 := gb_Fr.tr Fr37 (gb_Fr.up (w_X11_push er39) (fun _ _ hw => hw.elim (fun h0 => Or.inr (Or.inr (Or.inr (Or.inr (Or.inr (Or.inr (Or.inr (Or.inl (h0))))))))) (fun h0 => h0.elim (fun h1 => Or.inr (Or.inr (Or.inr (Or.inr (Or.inr (Or.inr (Or.inr (Or.inr (Or.inr (Or.inr (Or.inr (Or.inl (h1))))))))))))) (fun h1 => Or.inr (Or.inr (Or.inr (Or.inr (Or.inr (Or.inr (Or.inr (Or.inr (Or.inr (Or.inr (Or.inr (Or.inr (h1))))))))))))))))
    obtain ⟨r41, er41, h⟩ := gb_bd_e h
    have Fr41 := gb_Fr.tr Fr39 (gb_Fr.up (w_X11_next er41) (fun _ _ hw => hw.elim (fun h0 => Or.inl (h0)) (fun h0 => h0.elim (fun h1 => Or.inr (Or.inl (h1))) (fun h1 => h1.elim (fun h2 => Or.inr (Or.inr (Or.inl (h2)))) (fun h2 => Or.inr (Or.inr (Or.inr (Or.inl (h2)))))))))
    cases h
    exact Fr41
