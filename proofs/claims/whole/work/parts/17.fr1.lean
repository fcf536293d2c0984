/-! ===== which cells a function may write (on) ===== -/
set_option maxRecDepth 100000 in
set_option maxHeartbeats 4000000 in
theorem w_X6_shortest_101 {sh : List gb_Sh} {K102 : gb_G → Int32 → Int32 → Int32 → Int32 → Option (gb_G × Int32)} {y1 : Int32} {y2 : Int32} {y4 : Int32} {z0 : Int32} {g : gb_G} (hK102 : ∀ {a0 : gb_G} {a1 : Int32} {a2 : Int32} {a3 : Int32} {a4 : Int32} {o : (gb_G × Int32)}, K102 a0 a1 a2 a3 a4 = some o → gb_Fr (fun _ _ => False) a0 o.1) {o : (gb_G × Int32)} (h : f_X6_shortest_101 sh K102 g y1 y2 y4 z0 = some o) : gb_Fr (fun _ _ => False) g o.1 := by
  unfold f_X6_shortest_101 at h
  have Fg : gb_Fr (fun _ _ => False) g g := gb_Fr.rf
  exact gb_Fr.tr Fg (hK102 h)
set_option maxRecDepth 100000 in
set_option maxHeartbeats 4000000 in
theorem w_X6_shortest_75 {sh : List gb_Sh} {K102 : gb_G → Int32 → Int32 → Int32 → Int32 → Option (gb_G × Int32)} {y1 : Int32} {y2 : Int32} {y3 : Int32} {y4 : Int32} {y6 : Int32} {g : gb_G} (hK102 : ∀ {a0 : gb_G} {a1 : Int32} {a2 : Int32} {a3 : Int32} {a4 : Int32} {o : (gb_G × Int32)}, K102 a0 a1 a2 a3 a4 = some o → gb_Fr (fun _ _ => False) a0 o.1) {o : (gb_G × Int32)} (h : f_X6_shortest_75 sh K102 g y1 y2 y3 y4 y6 = some o) : gb_Fr (fun _ _ => False) g o.1 := by
  unfold f_X6_shortest_75 at h
  have Fg : gb_Fr (fun _ _ => False) g g := gb_Fr.rf
  rcases gb_ite_e h with h | h
  · exact gb_Fr.tr Fg (w_X6_shortest_101 (hK102) h)
  · obtain ⟨r6, er6, h⟩ := gb_bd_e h
    have Fr6 := gb_Fr.tr Fg (gb_Fr.up (w_J9_min_7cf53 er6) (fun _ _ hw => hw.elim))
    exact gb_Fr.tr Fr6 (w_X6_shortest_101 (hK102) h)
set_option maxRecDepth 100000 in
set_option maxHeartbeats 4000000 in
theorem w_X6_shortest_5 {sh : List gb_Sh}  : ∀ (n : Nat) {g : gb_G} {y1 : Int32} {y2 : Int32} {y3 : Int32} {y4 : Int32} {o : (gb_G × Int32)} (h : f_X6_shortest_5 sh n g y1 y2 y3 y4 = some o), gb_Fr (fun _ _ => False) g o.1 := by
  intro n
  induction n with
  | zero => intro g y1 y2 y3 y4 o h; cases h
  | succ n ih =>
    intro g y1 y2 y3 y4 o h
    rw [f_X6_shortest_5] at h
    have Fg : gb_Fr (fun _ _ => False) g g := gb_Fr.rf
    rcases gb_ite_e h with h | h
    · exact gb_Fr.tr Fg (w_X6_shortest_108 h)
    · rcases gb_ite_e h with h | h
      · exact gb_Fr.tr Fg (w_X6_shortest_108 h)
      · rcases gb_ite_e h with h | h
        · obtain ⟨-, h⟩ := gb_ck_e h
          obtain ⟨r4, er4, h⟩ := gb_bd_e h
          have Fr4 := gb_Fr.tr Fg (gb_Fr.up (w_X6_stepsBetween er4) (fun _ _ hw => hw.elim))
          rcases gb_ite_e h with h | h
          · exact gb_Fr.tr Fr4 (w_X6_shortest_75 (fun hh => w_X6_shortest_102 (fun hh => ih hh) hh) h)
          · obtain ⟨-, h⟩ := gb_ck_e h
            exact gb_Fr.tr Fr4 (w_X6_shortest_75 (fun hh => w_X6_shortest_102 (fun hh => ih hh) hh) h)
        · exact gb_Fr.tr Fg (w_X6_shortest_102 (fun hh => ih hh) h)
set_option maxRecDepth 100000 in
set_option maxHeartbeats 4000000 in
theorem w_X6_shortest {sh : List gb_Sh} {x1 : Int32} {x2 : Int32} {g : gb_G}  {o : (gb_G × Int32)} (h : f_X6_shortest sh g x1 x2 = some o) : gb_Fr (fun _ _ => False) g o.1 := by
  unfold f_X6_shortest at h
  have Fg : gb_Fr (fun _ _ => False) g g := gb_Fr.rf
  exact gb_Fr.tr Fg (w_X6_shortest_5 _ h)
set_option maxRecDepth 100000 in
set_option maxHeartbeats 4000000 in
theorem w_X6_walk_123 {sh : List gb_Sh} {b1 : Nat}  : ∀ (n : Nat) {g : gb_G} {y4 : Int32} {y5 : Int32} {y6 : Int32} {y7 : Int32} {o : (gb_G × Int32)} (h : f_X6_walk_123 sh b1 n g y4 y5 y6 y7 = some o), gb_Fr (fun c k => c = 53 ∨ c = 55 ∨ c = 57 ∨ c = 58 ∨ c = 59 ∨ c = 60 ∨ c = 63 ∨ c = 69 ∨ c = 70 ∨ c = 71) g o.1 := by
  intro n
  induction n with
  | zero => intro g y4 y5 y6 y7 o h; cases h
  | succ n ih =>
    intro g y4 y5 y6 y7 o h
    rw [f_X6_walk_123] at h
    have Fg : gb_Fr (fun c k => c = 53 ∨ c = 55 ∨ c = 57 ∨ c = 58 ∨ c = 59 ∨ c = 60 ∨ c = 63 ∨ c = 69 ∨ c = 70 ∨ c = 71) g g := gb_Fr.rf
    rcases gb_ite_e h with h | h
    · cases h
      exact Fg
    · rcases gb_ite_e h with h | h
      · cases h
        exact Fg
      · obtain ⟨r6, er6, h⟩ := gb_bd_e h
        have Fr6 := gb_Fr.tr Fg (gb_Fr.up (w_X6_shortest er6) (fun _ _ hw => hw.elim))
        obtain ⟨-, h⟩ := gb_ck_e h
        obtain ⟨g9, eg9, h⟩ := gb_let_x h
        have Fg9 := gb_Fr.tr Fr6 (gb_Fr.pi (Or.inr (Or.inr (Or.inr (Or.inr (Or.inr (Or.inr (Or.inr (Or.inr (Or.inr (rfl)))))))))) eg9)
        obtain ⟨g10, eg10, h⟩ := gb_let_x h
        have Fg10 := gb_Fr.tr Fg9 (gb_Fr.pi (Or.inr (Or.inr (Or.inr (Or.inr (Or.inr (Or.inr (Or.inl (rfl)))))))) eg10)
        obtain ⟨-, h⟩ := gb_ck_e h
        exact gb_Fr.tr Fg10 (ih h)
set_option maxRecDepth 100000 in
set_option maxHeartbeats 4000000 in
theorem w_X6_walk_98 {sh : List gb_Sh} {b1 : Nat} {y2 : Int32} {y3 : Int32} {g : gb_G}  {o : (gb_G × Int32)} (h : f_X6_walk_98 sh b1 g y2 y3 = some o) : gb_Fr (fun c k => c = 53 ∨ c = 55 ∨ c = 57 ∨ c = 58 ∨ c = 59 ∨ c = 60 ∨ c = 63 ∨ c = 69 ∨ c = 70 ∨ c = 71) g o.1 := by
  unfold f_X6_walk_98 at h
  have Fg : gb_Fr (fun c k => c = 53 ∨ c = 55 ∨ c = 57 ∨ c = 58 ∨ c = 59 ∨ c = 60 ∨ c = 63 ∨ c = 69 ∨ c = 70 ∨ c = 71) g g := gb_Fr.rf
  obtain ⟨g3, eg3, h⟩ := gb_let_x h
  have Fg3 := gb_Fr.tr Fg (gb_Fr.pi (Or.inr (Or.inr (Or.inr (Or.inr (Or.inr (Or.inr (Or.inl (rfl)))))))) eg3)
  obtain ⟨r4, er4, h⟩ := gb_bd_e h
  have Fr4 := gb_Fr.tr Fg3 (gb_Fr.up (w_X6_shortest er4) (fun _ _ hw => hw.elim))
  exact gb_Fr.tr Fr4 (w_X6_walk_123 _ h)
set_option maxRecDepth 100000 in
set_option maxHeartbeats 4000000 in
theorem w_X6_walk_92 {sh : List gb_Sh} {b1 : Nat} {K9 : gb_G → Int32 → Int32 → Int32 → Option (gb_G × Int32)} {y2 : Int32} {y3 : Int32} {y4 : Int32} {g : gb_G} (hK9 : ∀ {a0 : gb_G} {a1 : Int32} {a2 : Int32} {a3 : Int32} {o : (gb_G × Int32)}, K9 a0 a1 a2 a3 = some o → gb_Fr (fun c k => c = 53 ∨ c = 55 ∨ c = 57 ∨ c = 58 ∨ c = 59 ∨ c = 60 ∨ c = 63 ∨ c = 69 ∨ c = 70 ∨ c = 71) a0 o.1) {o : (gb_G × Int32)} (h : f_X6_walk_92 sh b1 K9 g y2 y3 y4 = some o) : gb_Fr (fun c k => c = 53 ∨ c = 55 ∨ c = 57 ∨ c = 58 ∨ c = 59 ∨ c = 60 ∨ c = 63 ∨ c = 69 ∨ c = 70 ∨ c = 71) g o.1 := by
  unfold f_X6_walk_92 at h
  have Fg : gb_Fr (fun c k => c = 53 ∨ c = 55 ∨ c = 57 ∨ c = 58 ∨ c = 59 ∨ c = 60 ∨ c = 63 ∨ c = 69 ∨ c = 70 ∨ c = 71) g g := gb_Fr.rf
  exact gb_Fr.tr Fg (hK9 h)
set_option maxRecDepth 100000 in
set_option maxHeartbeats 4000000 in
theorem w_X6_walk_86 {sh : List gb_Sh} {b1 : Nat} {K26 : gb_G → Int32 → Int32 → Int32 → Int32 → Option (gb_G × Int32)} {y2 : Int32} {y3 : Int32} {y4 : Int32} {y5 : Int32} {g : gb_G} (hK26 : ∀ {a0 : gb_G} {a1 : Int32} {a2 : Int32} {a3 : Int32} {a4 : Int32} {o : (gb_G × Int32)}, K26 a0 a1 a2 a3 a4 = some o → gb_Fr (fun c k => c = 53 ∨ c = 55 ∨ c = 57 ∨ c = 58 ∨ c = 59 ∨ c = 60 ∨ c = 63 ∨ c = 69 ∨ c = 70 ∨ c = 71) a0 o.1) {o : (gb_G × Int32)} (h : f_X6_walk_86 sh b1 K26 g y2 y3 y4 y5 = some o) : gb_Fr (fun c k => c = 53 ∨ c = 55 ∨ c = 57 ∨ c = 58 ∨ c = 59 ∨ c = 60 ∨ c = 63 ∨ c = 69 ∨ c = 70 ∨ c = 71) g o.1 := by
  unfold f_X6_walk_86 at h
  have Fg : gb_Fr (fun c k => c = 53 ∨ c = 55 ∨ c = 57 ∨ c = 58 ∨ c = 59 ∨ c = 60 ∨ c = 63 ∨ c = 69 ∨ c = 70 ∨ c = 71) g g := gb_Fr.rf
  exact gb_Fr.tr Fg (hK26 h)
set_option maxRecDepth 100000 in
set_option maxHeartbeats 4000000 in
theorem w_X6_walk_26 {sh : List gb_Sh} {b1 : Nat} {K9 : gb_G → Int32 → Int32 → Int32 → Option (gb_G × Int32)} (hK9 : ∀ {a0 : gb_G} {a1 : Int32} {a2 : Int32} {a3 : Int32} {o : (gb_G × Int32)}, K9 a0 a1 a2 a3 = some o → gb_Fr (fun c k => c = 53 ∨ c = 55 ∨ c = 57 ∨ c = 58 ∨ c = 59 ∨ c = 60 ∨ c = 63 ∨ c = 69 ∨ c = 70 ∨ c = 71) a0 o.1) : ∀ (n : Nat) {g : gb_G} {y2 : Int32} {y3 : Int32} {y4 : Int32} {y5 : Int32} {o : (gb_G × Int32)} (h : f_X6_walk_26 sh b1 K9 n g y2 y3 y4 y5 = some o), gb_Fr (fun c k => c = 53 ∨ c = 55 ∨ c = 57 ∨ c = 58 ∨ c = 59 ∨ c = 60 ∨ c = 63 ∨ c = 69 ∨ c = 70 ∨ c = 71) g o.1 := by
  intro n
  induction n with
  | zero => intro g y2 y3 y4 y5 o h; cases h
  | succ n ih =>
    intro g y2 y3 y4 y5 o h
    rw [f_X6_walk_26] at h
    have Fg : gb_Fr (fun c k => c = 53 ∨ c = 55 ∨ c = 57 ∨ c = 58 ∨ c = 59 ∨ c = 60 ∨ c = 63 ∨ c = 69 ∨ c = 70 ∨ c = 71) g g := gb_Fr.rf
    rcases gb_ite_e h with h | h
    · exact gb_Fr.tr Fg (w_X6_walk_92 (hK9) h)
    · rcases gb_ite_e h with h | h
      · rcases gb_ite_e h with h | h
        · obtain ⟨-, h⟩ := gb_ck_e h
          obtain ⟨r13, er13, h⟩ := gb_bd_e h
          have Fr13 := gb_Fr.tr Fg (gb_Fr.up (w_X6_shortest er13) (fun _ _ hw => hw.elim))
          obtain ⟨-, h⟩ := gb_ck_e h
          obtain ⟨g16, eg16, h⟩ := gb_let_x h
          have Fg16 := gb_Fr.tr Fr13 (gb_Fr.pi (Or.inr (Or.inr (Or.inr (Or.inr (Or.inr (Or.inr (Or.inr (Or.inl (rfl))))))))) eg16)
          exact gb_Fr.tr Fg16 (w_X6_walk_86 (fun hh => ih hh) h)
        · exact gb_Fr.tr Fg (w_X6_walk_86 (fun hh => ih hh) h)
      · exact gb_Fr.tr Fg (w_X6_walk_92 (hK9) h)
set_option maxRecDepth 100000 in
set_option maxHeartbeats 4000000 in
theorem w_X6_walk_9 {sh : List gb_Sh} {b1 : Nat}  : ∀ (n : Nat) {g : gb_G} {y2 : Int32} {y3 : Int32} {y4 : Int32} {o : (gb_G × Int32)} (h : f_X6_walk_9 sh b1 n g y2 y3 y4 = some o), gb_Fr (fun c k => c = 53 ∨ c = 55 ∨ c = 57 ∨ c = 58 ∨ c = 59 ∨ c = 60 ∨ c = 63 ∨ c = 69 ∨ c = 70 ∨ c = 71) g o.1 := by
  intro n
  induction n with
  | zero => intro g y2 y3 y4 o h; cases h
  | succ n ih =>
    intro g y2 y3 y4 o h
    rw [f_X6_walk_9] at h
    have Fg : gb_Fr (fun c k => c = 53 ∨ c = 55 ∨ c = 57 ∨ c = 58 ∨ c = 59 ∨ c = 60 ∨ c = 63 ∨ c = 69 ∨ c = 70 ∨ c = 71) g g := gb_Fr.rf
    rcases gb_ite_e h with h | h
    · exact gb_Fr.tr Fg (w_X6_walk_98 h)
    · rcases gb_ite_e h with h | h
      · exact gb_Fr.tr Fg (w_X6_walk_98 h)
      · exact gb_Fr.tr Fg (w_X6_walk_26 (fun hh => ih hh) _ h)
set_option maxRecDepth 100000 in
set_option maxHeartbeats 4000000 in
theorem w_X6_walk {sh : List gb_Sh} {b1 : Nat} {x2 : Int32} {g : gb_G}  {o : (gb_G × Int32)} (h : f_X6_walk sh g b1 x2 = some o) : gb_Fr (fun c k => c = 53 ∨ c = 55 ∨ c = 57 ∨ c = 58 ∨ c = 59 ∨ c = 60 ∨ c = 63 ∨ c = 69 ∨ c = 70 ∨ c = 71) g o.1 := by
  unfold f_X6_walk at h
  have Fg : gb_Fr (fun c k => c = 53 ∨ c = 55 ∨ c = 57 ∨ c = 58 ∨ c = 59 ∨ c = 60 ∨ c = 63 ∨ c = 69 ∨ c = 70 ∨ c = 71) g g := gb_Fr.rf
  obtain ⟨r1, er1, h⟩ := gb_bd_e h
  have Fr1 := gb_Fr.tr Fg (gb_Fr.up (w_X6_loadPlaces er1) (fun _ _ hw => hw.elim (fun h0 => Or.inl (h0)) (fun h0 => h0.elim (fun h1 => Or.inr (Or.inl (h1))) (fun h1 => h1.elim (fun h2 => Or.inr (Or.inr (Or.inl (h2)))) (fun h2 => h2.elim (fun h3 => Or.inr (Or.inr (Or.inr (Or.inl (h3))))) (fun h3 => h3.elim (fun h4 => Or.inr (Or.inr (Or.inr (Or.inr (Or.inl (h4)))))) (fun h4 => h4.elim (fun h5 => Or.inr (Or.inr (Or.inr (Or.inr (Or.inr (Or.inl (h5))))))) (fun h5 => Or.inr (Or.inr (Or.inr (Or.inr (Or.inr (Or.inr (Or.inr (Or.inr (Or.inl (h5)))))))))))))))))
  exact gb_Fr.tr Fr1 (w_X6_walk_9 _ h)
set_option maxRecDepth 100000 in
set_option maxHeartbeats 4000000 in
theorem w_X6_walkedTo {sh : List gb_Sh} {x1 : Int32} {g : gb_G}  {o : (gb_G × Int32)} (h : f_X6_walkedTo sh g x1 = some o) : gb_Fr (fun _ _ => False) g o.1 := by
  unfold f_X6_walkedTo at h
  have Fg : gb_Fr (fun _ _ => False) g g := gb_Fr.rf
  obtain ⟨r1, er1, h⟩ := gb_bd_e h
  have Fr1 := gb_Fr.tr Fg (gb_Fr.up (w_J9_min_7cf53 er1) (fun _ _ hw => hw.elim))
  obtain ⟨r3, er3, h⟩ := gb_bd_e h
  have Fr3 := gb_Fr.tr Fr1 (gb_Fr.up (w_X10_within er3) (fun _ _ hw => hw.elim))
  rcases gb_ite_e h with h | h
  · cases h
    exact Fr3
  · obtain ⟨-, h⟩ := gb_ck_e h
    cases h
    exact Fr3
set_option maxRecDepth 100000 in
set_option maxHeartbeats 4000000 in
theorem w_X6_seekSets_158 {sh : List gb_Sh} {b1 : Nat} {K24 : gb_G → Int32 → Int32 → Int32 → Int32 → Option (gb_G × Int32)} {y2 : Int32} {y3 : Int32} {y4 : Int32} {y5 : Int32} {g : gb_G} (hK24 : ∀ {a0 : gb_G} {a1 : Int32} {a2 : Int32} {a3 : Int32} {a4 : Int32} {o : (gb_G × Int32)}, K24 a0 a1 a2 a3 a4 = some o → gb_Fr (fun c k => c = 53 ∨ c = 55 ∨ c = 63 ∨ c = 66 ∨ c = 67 ∨ c = 68 ∨ c = 72) a0 o.1) {o : (gb_G × Int32)} (h : f_X6_seekSets_158 sh b1 K24 g y2 y3 y4 y5 = some o) : gb_Fr (fun c k => c = 53 ∨ c = 55 ∨ c = 63 ∨ c = 66 ∨ c = 67 ∨ c = 68 ∨ c = 72) g o.1 := by
  unfold f_X6_seekSets_158 at h
  have Fg : gb_Fr (fun c k => c = 53 ∨ c = 55 ∨ c = 63 ∨ c = 66 ∨ c = 67 ∨ c = 68 ∨ c = 72) g g := gb_Fr.rf
  exact gb_Fr.tr Fg (hK24 h)
set_option maxRecDepth 100000 in
set_option maxHeartbeats 4000000 in
theorem w_X6_seekSets_116 {sh : List gb_Sh} {b1 : Nat} {K55 : gb_G → Int32 → Int32 → Int32 → Int32 → Int32 → Int32 → Int32 → Int32 → Option (gb_G × Int32)} {y2 : Int32} {y3 : Int32} {y4 : Int32} {y5 : Int32} {y6 : Int32} {y7 : Int32} {y8 : Int32} {y9 : Int32} {g : gb_G} (hK55 : ∀ {a0 : gb_G} {a1 : Int32} {a2 : Int32} {a3 : Int32} {a4 : Int32} {a5 : Int32} {a6 : Int32} {a7 : Int32} {a8 : Int32} {o : (gb_G × Int32)}, K55 a0 a1 a2 a3 a4 a5 a6 a7 a8 = some o → gb_Fr (fun c k => c = 53 ∨ c = 55 ∨ c = 63 ∨ c = 66 ∨ c = 67 ∨ c = 68 ∨ c = 72) a0 o.1) {o : (gb_G × Int32)} (h : f_X6_seekSets_116 sh b1 K55 g y2 y3 y4 y5 y6 y7 y8 y9 = some o) : gb_Fr (fun c k => c = 53 ∨ c = 55 ∨ c = 63 ∨ c = 66 ∨ c = 67 ∨ c = 68 ∨ c = 72) g o.1 := by
  unfold f_X6_seekSets_116 at h
  have Fg : gb_Fr (fun c k => c = 53 ∨ c = 55 ∨ c = 63 ∨ c = 66 ∨ c = 67 ∨ c = 68 ∨ c = 72) g g := gb_Fr.rf
  exact gb_Fr.tr Fg (hK55 h)
set_option maxRecDepth 100000 in
set_option maxHeartbeats 4000000 in
theorem w_X6_seekSets_113 {sh : List gb_Sh} {b1 : Nat} {K116 : gb_G → Int32 → Int32 → Int32 → Int32 → Int32 → Int32 → Int32 → Int32 → Option (gb_G × Int32)} {y2 : Int32} {y3 : Int32} {y4 : Int32} {y5 : Int32} {y6 : Int32} {y7 : Int32} {y9 : Int32} {z0 : Int32} {z1 : Int32} {g : gb_G} (hK116 : ∀ {a0 : gb_G} {a1 : Int32} {a2 : Int32} {a3 : Int32} {a4 : Int32} {a5 : Int32} {a6 : Int32} {a7 : Int32} {a8 : Int32} {o : (gb_G × Int32)}, K116 a0 a1 a2 a3 a4 a5 a6 a7 a8 = some o → gb_Fr (fun c k => c = 53 ∨ c = 55 ∨ c = 63 ∨ c = 66 ∨ c = 67 ∨ c = 68 ∨ c = 72) a0 o.1) {o : (gb_G × Int32)} (h : f_X6_seekSets_113 sh b1 K116 g y2 y3 y4 y5 y6 y7 y9 z0 z1 = some o) : gb_Fr (fun c k => c = 53 ∨ c = 55 ∨ c = 63 ∨ c = 66 ∨ c = 67 ∨ c = 68 ∨ c = 72) g o.1 := by
  unfold f_X6_seekSets_113 at h
  have Fg : gb_Fr (fun c k => c = 53 ∨ c = 55 ∨ c = 63 ∨ c = 66 ∨ c = 67 ∨ c = 68 ∨ c = 72) g g := gb_Fr.rf
  exact gb_Fr.tr Fg (hK116 h)
set_option maxRecDepth 100000 in
set_option maxHeartbeats 4000000 in
theorem w_X6_seekSets_55 {sh : List gb_Sh} {b1 : Nat} {K24 : gb_G → Int32 → Int32 → Int32 → Int32 → Option (gb_G × Int32)} (hK24 : ∀ {a0 : gb_G} {a1 : Int32} {a2 : Int32} {a3 : Int32} {a4 : Int32} {o : (gb_G × Int32)}, K24 a0 a1 a2 a3 a4 = some o → gb_Fr (fun c k => c = 53 ∨ c = 55 ∨ c = 63 ∨ c = 66 ∨ c = 67 ∨ c = 68 ∨ c = 72) a0 o.1) : ∀ (n : Nat) {g : gb_G} {y2 : Int32} {y3 : Int32} {y4 : Int32} {y5 : Int32} {y6 : Int32} {y7 : Int32} {y8 : Int32} {y9 : Int32} {o : (gb_G × Int32)} (h : f_X6_seekSets_55 sh b1 K24 n g y2 y3 y4 y5 y6 y7 y8 y9 = some o), gb_Fr (fun c k => c = 53 ∨ c = 55 ∨ c = 63 ∨ c = 66 ∨ c = 67 ∨ c = 68 ∨ c = 72) g o.1 := by
  intro n
  induction n with
  | zero => intro g y2 y3 y4 y5 y6 y7 y8 y9 o h; cases h
  | succ n ih =>
    intro g y2 y3 y4 y5 y6 y7 y8 y9 o h
    rw [f_X6_seekSets_55] at h
    have Fg : gb_Fr (fun c k => c = 53 ∨ c = 55 ∨ c = 63 ∨ c = 66 ∨ c = 67 ∨ c = 68 ∨ c = 72) g g := gb_Fr.rf
    rcases gb_ite_e h with h | h
    · rcases gb_ite_e h with h | h
      · exact gb_Fr.tr Fg (w_X6_seekSets_158 (hK24) h)
      · rcases gb_ite_e h with h | h
        · rcases gb_ite_e h with h | h
          · obtain ⟨-, h⟩ := gb_ck_e h
            obtain ⟨g7, eg7, h⟩ := gb_let_x h
            have Fg7 := gb_Fr.tr Fg (gb_Fr.pi (Or.inr (Or.inr (Or.inr (Or.inr (Or.inr (Or.inr (rfl))))))) eg7)
            obtain ⟨g8, eg8, h⟩ := gb_let_x h
            have Fg8 := gb_Fr.tr Fg7 (gb_Fr.pi (Or.inr (Or.inr (Or.inl (rfl)))) eg8)
            exact gb_Fr.tr Fg8 (w_X6_seekSets_158 (hK24) h)
          · exact gb_Fr.tr Fg (w_X6_seekSets_158 (hK24) h)
        · exact gb_Fr.tr Fg (w_X6_seekSets_158 (hK24) h)
    · rcases gb_ite_e h with h | h
      · obtain ⟨-, h⟩ := gb_ck_e h
        obtain ⟨-, h⟩ := gb_ck_e h
        obtain ⟨r11, er11, h⟩ := gb_bd_e h
        have Fr11 := gb_Fr.tr Fg (gb_Fr.up (w_X0_lacks er11) (fun _ _ hw => hw.elim))
        rcases gb_ite_e h with h | h
        · exact gb_Fr.tr Fr11 (w_X6_seekSets_113 (fun hh => w_X6_seekSets_116 (fun hh => ih hh) hh) h)
        · exact gb_Fr.tr Fr11 (w_X6_seekSets_113 (fun hh => w_X6_seekSets_116 (fun hh => ih hh) hh) h)
      · exact gb_Fr.tr Fg (w_X6_seekSets_116 (fun hh => ih hh) h)
set_option maxRecDepth 100000 in
set_option maxHeartbeats 4000000 in
theorem w_X6_seekSets_24 {sh : List gb_Sh} {b1 : Nat}  : ∀ (n : Nat) {g : gb_G} {y2 : Int32} {y3 : Int32} {y4 : Int32} {y5 : Int32} {o : (gb_G × Int32)} (h : f_X6_seekSets_24 sh b1 n g y2 y3 y4 y5 = some o), gb_Fr (fun c k => c = 53 ∨ c = 55 ∨ c = 63 ∨ c = 66 ∨ c = 67 ∨ c = 68 ∨ c = 72) g o.1 := by
  intro n
  induction n with
  | zero => intro g y2 y3 y4 y5 o h; cases h
  | succ n ih =>
    intro g y2 y3 y4 y5 o h
    rw [f_X6_seekSets_24] at h
    have Fg : gb_Fr (fun c k => c = 53 ∨ c = 55 ∨ c = 63 ∨ c = 66 ∨ c = 67 ∨ c = 68 ∨ c = 72) g g := gb_Fr.rf
    rcases gb_ite_e h with h | h
    · cases h
      exact Fg
    · rcases gb_ite_e h with h | h
      · cases h
        exact Fg
      · exact gb_Fr.tr Fg (w_X6_seekSets_55 (fun hh => ih hh) _ h)
set_option maxRecDepth 100000 in
set_option maxHeartbeats 4000000 in
theorem w_X6_seekSets {sh : List gb_Sh} {b1 : Nat} {x2 : Int32} {x3 : Int32} {g : gb_G}  {o : (gb_G × Int32)} (h : f_X6_seekSets sh g b1 x2 x3 = some o) : gb_Fr (fun c k => c = 53 ∨ c = 55 ∨ c = 63 ∨ c = 66 ∨ c = 67 ∨ c = 68 ∨ c = 72) g o.1 := by
  unfold f_X6_seekSets at h
  have Fg : gb_Fr (fun c k => c = 53 ∨ c = 55 ∨ c = 63 ∨ c = 66 ∨ c = 67 ∨ c = 68 ∨ c = 72) g g := gb_Fr.rf
  obtain ⟨r1, er1, h⟩ := gb_bd_e h
  have Fr1 := gb_Fr.tr Fg (gb_Fr.up (w_X6_loadWares er1) (fun _ _ hw => hw.elim (fun h0 => Or.inl (h0)) (fun h0 => h0.elim (fun h1 => Or.inr (Or.inl (h1))) (fun h1 => h1.elim (fun h2 => Or.inr (Or.inr (Or.inr (Or.inl (h2))))) (fun h2 => h2.elim (fun h3 => Or.inr (Or.inr (Or.inr (Or.inr (Or.inl (h3)))))) (fun h3 => Or.inr (Or.inr (Or.inr (Or.inr (Or.inr (Or.inl (h3))))))))))))
  obtain ⟨r3, er3, h⟩ := gb_bd_e h
  have Fr3 := gb_Fr.tr Fr1 (gb_Fr.up (w_J9_min_7cf53 er3) (fun _ _ hw => hw.elim))
  obtain ⟨g5, eg5, h⟩ := gb_let_x h
  have Fg5 := gb_Fr.tr Fr3 (gb_Fr.pi (Or.inr (Or.inr (Or.inl (rfl)))) eg5)
  exact gb_Fr.tr Fg5 (w_X6_seekSets_24 _ h)
set_option maxRecDepth 100000 in
set_option maxHeartbeats 4000000 in
theorem w_X6_setAt {sh : List gb_Sh} {x1 : Int32} {g : gb_G}  {o : (gb_G × Int32)} (h : f_X6_setAt sh g x1 = some o) : gb_Fr (fun _ _ => False) g o.1 := by
  unfold f_X6_setAt at h
  have Fg : gb_Fr (fun _ _ => False) g g := gb_Fr.rf
  obtain ⟨r1, er1, h⟩ := gb_bd_e h
  have Fr1 := gb_Fr.tr Fg (gb_Fr.up (w_J9_min_7cf53 er1) (fun _ _ hw => hw.elim))
  obtain ⟨r3, er3, h⟩ := gb_bd_e h
  have Fr3 := gb_Fr.tr Fr1 (gb_Fr.up (w_X10_within er3) (fun _ _ hw => hw.elim))
  rcases gb_ite_e h with h | h
  · cases h
    exact Fr3
  · obtain ⟨-, h⟩ := gb_ck_e h
    cases h
    exact Fr3
set_option maxRecDepth 100000 in
set_option maxHeartbeats 4000000 in
theorem w_X6_setsWith_4 {sh : List gb_Sh}  : ∀ (n : Nat) {g : gb_G} {y1 : Int32} {y2 : Int32} {y3 : Int32} {o : (gb_G × Int32)} (h : f_X6_setsWith_4 sh n g y1 y2 y3 = some o), gb_Fr (fun _ _ => False) g o.1 := by
  intro n
  induction n with
  | zero => intro g y1 y2 y3 o h; cases h
  | succ n ih =>
    intro g y1 y2 y3 o h
    rw [f_X6_setsWith_4] at h
    have Fg : gb_Fr (fun _ _ => False) g g := gb_Fr.rf
    rcases gb_ite_e h with h | h
    · cases h
      exact Fg
    · rcases gb_ite_e h with h | h
      · cases h
        exact Fg
      · obtain ⟨-, h⟩ := gb_ck_e h
        exact gb_Fr.tr Fg (ih h)
set_option maxRecDepth 100000 in
set_option maxHeartbeats 4000000 in
theorem w_X6_setsWith {sh : List gb_Sh} {x1 : Int32} {g : gb_G}  {o : (gb_G × Int32)} (h : f_X6_setsWith sh g x1 = some o) : gb_Fr (fun _ _ => False) g o.1 := by
  unfold f_X6_setsWith at h
  have Fg : gb_Fr (fun _ _ => False) g g := gb_Fr.rf
  exact gb_Fr.tr Fg (w_X6_setsWith_4 _ h)
set_option maxRecDepth 100000 in
set_option maxHeartbeats 4000000 in
theorem w_X6_sumOfMonths_50 {sh : List gb_Sh} {b1 : Nat} {K5 : gb_G → Int32 → Int32 → Int64 → Int32 → Option (gb_G × Int64)} (hK5 : ∀ {a0 : gb_G} {a1 : Int32} {a2 : Int32} {a3 : Int64} {a4 : Int32} {o : (gb_G × Int64)}, K5 a0 a1 a2 a3 a4 = some o → gb_Fr (fun _ _ => False) a0 o.1) : ∀ (n : Nat) {g : gb_G} {y1 : Int32} {y2 : Int32} {y3 : Int64} {y5 : Int32} {y6 : Int64} {y8 : Int32} {o : (gb_G × Int64)} (h : f_X6_sumOfMonths_50 sh b1 K5 n g y1 y2 y3 y5 y6 y8 = some o), gb_Fr (fun _ _ => False) g o.1 := by
  intro n
  induction n with
  | zero => intro g y1 y2 y3 y5 y6 y8 o h; cases h
  | succ n ih =>
    intro g y1 y2 y3 y5 y6 y8 o h
    rw [f_X6_sumOfMonths_50] at h
    have Fg : gb_Fr (fun _ _ => False) g g := gb_Fr.rf
    rcases gb_ite_e h with h | h
    · exact gb_Fr.tr Fg (hK5 h)
    · obtain ⟨-, h⟩ := gb_ck_e h
      exact gb_Fr.tr Fg (ih h)
set_option maxRecDepth 100000 in
set_option maxHeartbeats 4000000 in
theorem w_X6_sumOfMonths_27 {sh : List gb_Sh} {b1 : Nat} {K5 : gb_G → Int32 → Int32 → Int64 → Int32 → Option (gb_G × Int64)} (hK5 : ∀ {a0 : gb_G} {a1 : Int32} {a2 : Int32} {a3 : Int64} {a4 : Int32} {o : (gb_G × Int64)}, K5 a0 a1 a2 a3 a4 = some o → gb_Fr (fun _ _ => False) a0 o.1) : ∀ (n : Nat) {g : gb_G} {y1 : Int32} {y2 : Int32} {y3 : Int64} {y5 : Int32} {y6 : Int64} {y8 : Int32} {o : (gb_G × Int64)} (h : f_X6_sumOfMonths_27 sh b1 K5 n g y1 y2 y3 y5 y6 y8 = some o), gb_Fr (fun _ _ => False) g o.1 := by
  intro n
  induction n with
  | zero => intro g y1 y2 y3 y5 y6 y8 o h; cases h
  | succ n ih =>
    intro g y1 y2 y3 y5 y6 y8 o h
    rw [f_X6_sumOfMonths_27] at h
    have Fg : gb_Fr (fun _ _ => False) g g := gb_Fr.rf
    rcases gb_ite_e h with h | h
    · exact gb_Fr.tr Fg (w_X6_sumOfMonths_50 (hK5) _ h)
    · exact gb_Fr.tr Fg (ih h)
set_option maxRecDepth 100000 in
set_option maxHeartbeats 4000000 in
theorem w_X6_sumOfMonths_5 {sh : List gb_Sh} {b1 : Nat}  : ∀ (n : Nat) {g : gb_G} {y1 : Int32} {y2 : Int32} {y3 : Int64} {y5 : Int32} {o : (gb_G × Int64)} (h : f_X6_sumOfMonths_5 sh b1 n g y1 y2 y3 y5 = some o), gb_Fr (fun _ _ => False) g o.1 := by
  intro n
  induction n with
  | zero => intro g y1 y2 y3 y5 o h; cases h
  | succ n ih =>
    intro g y1 y2 y3 y5 o h
    rw [f_X6_sumOfMonths_5] at h
    have Fg : gb_Fr (fun _ _ => False) g g := gb_Fr.rf
    rcases gb_ite_e h with h | h
    · cases h
      exact Fg
    · rcases gb_ite_e h with h | h
      · cases h
        exact Fg
      · exact gb_Fr.tr Fg (w_X6_sumOfMonths_27 (fun hh => ih hh) _ h)
set_option maxRecDepth 100000 in
set_option maxHeartbeats 4000000 in
theorem w_X6_sumOfMonths {sh : List gb_Sh} {b1 : Nat} {x2 : Int32} {x3 : Int32} {g : gb_G}  {o : (gb_G × Int64)} (h : f_X6_sumOfMonths sh g b1 x2 x3 = some o) : gb_Fr (fun _ _ => False) g o.1 := by
  unfold f_X6_sumOfMonths at h
  have Fg : gb_Fr (fun _ _ => False) g g := gb_Fr.rf
  exact gb_Fr.tr Fg (w_X6_sumOfMonths_5 _ h)
set_option maxRecDepth 100000 in
set_option maxHeartbeats 4000000 in
theorem w_X6_rise {sh : List gb_Sh} {b1 : Nat} {g : gb_G}  {o : (gb_G)} (h : f_X6_rise sh g b1 = some o) : gb_Fr (fun c k => (c = 74 ∧ k = 0) ∨ (c = 74 ∧ k = 1)) g o := by
  unfold f_X6_rise at h
  have Fg : gb_Fr (fun c k => (c = 74 ∧ k = 0) ∨ (c = 74 ∧ k = 1)) g g := gb_Fr.rf
  obtain ⟨r1, er1, h⟩ := gb_bd_e h
  have Fr1 := gb_Fr.tr Fg (gb_Fr.up (w_X6_sumOfMonths er1) (fun _ _ hw => hw.elim))
  obtain ⟨r3, er3, h⟩ := gb_bd_e h
  have Fr3 := gb_Fr.tr Fr1 (gb_Fr.up (w_X6_sumOfMonths er3) (fun _ _ hw => hw.elim))
  obtain ⟨r5, er5, h⟩ := gb_bd_e h
  have Fr5 := gb_Fr.tr Fr3 (gb_Fr.up (w_X6_sumOfMonths er5) (fun _ _ hw => hw.elim))
  obtain ⟨r7, er7, h⟩ := gb_bd_e h
  have Fr7 := gb_Fr.tr Fr5 (gb_Fr.up (w_X6_sumOfMonths er7) (fun _ _ hw => hw.elim))
  obtain ⟨r9, er9, h⟩ := gb_bd_e h
  have Fr9 := gb_Fr.tr Fr7 (gb_Fr.up (w_X2_put er9) (fun _ _ hw => hw.elim (fun h0 => Or.inl (h0)) (fun h0 => Or.inr (h0))))
  cases h
  exact Fr9
set_option maxRecDepth 100000 in
set_option maxHeartbeats 4000000 in
theorem w_X6_atStart {sh : List gb_Sh} {b1 : Nat} {g : gb_G}  {o : (gb_G)} (h : f_X6_atStart sh g b1 = some o) : gb_Fr (fun c k => (c = 74 ∧ k = 0) ∨ (c = 74 ∧ k = 1)) g o := by
  unfold f_X6_atStart at h
  have Fg : gb_Fr (fun c k => (c = 74 ∧ k = 0) ∨ (c = 74 ∧ k = 1)) g g := gb_Fr.rf
  obtain ⟨r1, er1, h⟩ := gb_bd_e h
  have Fr1 := gb_Fr.tr Fg (gb_Fr.up (w_X6_sumOfMonths er1) (fun _ _ hw => hw.elim))
  obtain ⟨r3, er3, h⟩ := gb_bd_e h
  have Fr3 := gb_Fr.tr Fr1 (gb_Fr.up (w_X6_sumOfMonths er3) (fun _ _ hw => hw.elim))
  obtain ⟨r5, er5, h⟩ := gb_bd_e h
  have Fr5 := gb_Fr.tr Fr3 (gb_Fr.up (w_X6_sumOfMonths er5) (fun _ _ hw => hw.elim))
  obtain ⟨r7, er7, h⟩ := gb_bd_e h
  have Fr7 := gb_Fr.tr Fr5 (gb_Fr.up (w_X6_sumOfMonths er7) (fun _ _ hw => hw.elim))
  obtain ⟨r9, er9, h⟩ := gb_bd_e h
  have Fr9 := gb_Fr.tr Fr7 (gb_Fr.up (w_X2_put er9) (fun _ _ hw => hw.elim (fun h0 => Or.inl (h0)) (fun h0 => Or.inr (h0))))
  cases h
  exact Fr9
set_option maxRecDepth 100000 in
set_option maxHeartbeats 4000000 in
theorem w_J7_fill_d0a16_6 {sh : List gb_Sh} {a1 : Nat} {n1 : Nat}  : ∀ (n : Nat) {g : gb_G} {y1 : Int64} {y3 : Int32} {y4 : Int32} {o : (gb_G)} (h : f_J7_fill_d0a16_6 sh a1 n1 n g y1 y3 y4 = some o), gb_Fr (fun c k => c = a1) g o := by
  intro n
  induction n with
  | zero => intro g y1 y3 y4 o h; cases h
  | succ n ih =>
    intro g y1 y3 y4 o h
    rw [f_J7_fill_d0a16_6] at h
    have Fg : gb_Fr (fun c k => c = a1) g g := gb_Fr.rf
    rcases gb_ite_e h with h | h
    · cases h
      exact Fg
    · obtain ⟨-, h⟩ := gb_ck_e h
      obtain ⟨g2, eg2, h⟩ := gb_let_x h
      have Fg2 := gb_Fr.tr Fg (gb_Fr.pj (rfl) eg2)
      exact gb_Fr.tr Fg2 (ih h)
set_option maxRecDepth 100000 in
set_option maxHeartbeats 4000000 in
theorem w_J7_fill_d0a16 {sh : List gb_Sh} {a1 : Nat} {n1 : Nat} {x2 : Int64} {g : gb_G}  {o : (gb_G)} (h : f_J7_fill_d0a16 sh g a1 n1 x2 = some o) : gb_Fr (fun c k => c = a1) g o := by
  unfold f_J7_fill_d0a16 at h
  have Fg : gb_Fr (fun c k => c = a1) g g := gb_Fr.rf
  exact gb_Fr.tr Fg (w_J7_fill_d0a16_6 _ h)
set_option maxRecDepth 100000 in
set_option maxHeartbeats 4000000 in
theorem w_X6_partsAtTop_60 {sh : List gb_Sh} {K26 : gb_G → Int32 → Int32 → Int32 → Option (gb_G × Int64)} (hK26 : ∀ {a0 : gb_G} {a1 : Int32} {a2 : Int32} {a3 : Int32} {o : (gb_G × Int64)}, K26 a0 a1 a2 a3 = some o → gb_Fr (fun c k => c = 73) a0 o.1) : ∀ (n : Nat) {g : gb_G} {y2 : Int32} {y3 : Int32} {y4 : Int32} {y5 : Int32} {o : (gb_G × Int64)} (h : f_X6_partsAtTop_60 sh K26 n g y2 y3 y4 y5 = some o), gb_Fr (fun c k => c = 73) g o.1 := by
  intro n
  induction n with
  | zero => intro g y2 y3 y4 y5 o h; cases h
  | succ n ih =>
    intro g y2 y3 y4 y5 o h
    rw [f_X6_partsAtTop_60] at h
    have Fg : gb_Fr (fun c k => c = 73) g g := gb_Fr.rf
    rcases gb_ite_e h with h | h
    · exact gb_Fr.tr Fg (hK26 h)
    · obtain ⟨-, h⟩ := gb_ck_e h
      obtain ⟨-, h⟩ := gb_ck_e h
      obtain ⟨-, h⟩ := gb_ck_e h
      obtain ⟨g11, eg11, h⟩ := gb_let_x h
      have Fg11 := gb_Fr.tr Fg (gb_Fr.pj (rfl) eg11)
      exact gb_Fr.tr Fg11 (ih h)
set_option maxRecDepth 100000 in
set_option maxHeartbeats 4000000 in
theorem w_X6_partsAtTop_26 {sh : List gb_Sh}  : ∀ (n : Nat) {g : gb_G} {y2 : Int32} {y3 : Int32} {y4 : Int32} {o : (gb_G × Int64)} (h : f_X6_partsAtTop_26 sh n g y2 y3 y4 = some o), gb_Fr (fun c k => c = 73) g o.1 := by
  intro n
  induction n with
  | zero => intro g y2 y3 y4 o h; cases h
  | succ n ih =>
    intro g y2 y3 y4 o h
    rw [f_X6_partsAtTop_26] at h
    have Fg : gb_Fr (fun c k => c = 73) g g := gb_Fr.rf
    rcases gb_ite_e h with h | h
    · cases h
      exact Fg
    · obtain ⟨g7, eg7, h⟩ := gb_let_x h
      have Fg7 := gb_Fr.tr Fg (gb_Fr.pj (rfl) eg7)
      exact gb_Fr.tr Fg7 (w_X6_partsAtTop_60 (fun hh => ih hh) _ h)
set_option maxRecDepth 100000 in
set_option maxHeartbeats 4000000 in
theorem w_X6_partsAtTop {sh : List gb_Sh} {x1 : Int32} {x2 : Int32} {x3 : Int32} {g : gb_G}  {o : (gb_G × Int64)} (h : f_X6_partsAtTop sh g x1 x2 x3 = some o) : gb_Fr (fun c k => c = 73) g o.1 := by
  unfold f_X6_partsAtTop at h
  have Fg : gb_Fr (fun c k => c = 73) g g := gb_Fr.rf
  obtain ⟨r1, er1, h⟩ := gb_bd_e h
  have Fr1 := gb_Fr.tr Fg (gb_Fr.up (w_J7_fill_d0a16 er1) (fun _ _ hw => hw))
  obtain ⟨r3, er3, h⟩ := gb_bd_e h
  have Fr3 := gb_Fr.tr Fr1 (gb_Fr.up (w_X10_nearest er3) (fun _ _ hw => hw.elim))
  obtain ⟨-, h⟩ := gb_ck_e h
  obtain ⟨g6, eg6, h⟩ := gb_let_x h
  have Fg6 := gb_Fr.tr Fr3 (gb_Fr.pj (rfl) eg6)
  exact gb_Fr.tr Fg6 (w_X6_partsAtTop_26 _ h)
set_option maxRecDepth 100000 in
set_option maxHeartbeats 4000000 in
theorem w_X7_clear {sh : List gb_Sh} {b : Nat} {g : gb_G}  {o : (gb_G)} (h : f_X7_clear sh g b = some o) : gb_Fr (fun c k => (c = b ∧ k = 0) ∨ (c = b ∧ k = 3) ∨ (c = b ∧ k = 7)) g o := by
  unfold f_X7_clear at h
  have Fg : gb_Fr (fun c k => (c = b ∧ k = 0) ∨ (c = b ∧ k = 3) ∨ (c = b ∧ k = 7)) g g := gb_Fr.rf
  obtain ⟨g1, eg1, h⟩ := gb_let_x h
  have Fg1 := gb_Fr.tr Fg (gb_Fr.pi (Or.inl (⟨rfl, rfl⟩)) eg1)
  obtain ⟨g2, eg2, h⟩ := gb_let_x h
  have Fg2 := gb_Fr.tr Fg1 (gb_Fr.pi (Or.inr (Or.inl (⟨rfl, rfl⟩))) eg2)
  obtain ⟨g3, eg3, h⟩ := gb_let_x h
  have Fg3 := gb_Fr.tr Fg2 (gb_Fr.pi (Or.inr (Or.inr (⟨rfl, rfl⟩))) eg3)
  cases h
  exact Fg3
set_option maxRecDepth 100000 in
set_option maxHeartbeats 4000000 in
theorem w_X7_beginClause {sh : List gb_Sh} {b : Nat} {x1 : Int32} {g : gb_G}  {o : (gb_G)} (h : f_X7_beginClause sh g b x1 = some o) : gb_Fr (fun c k => c = b + 3 ∨ c = b + 4) g o := by
  unfold f_X7_beginClause at h
  have Fg : gb_Fr (fun c k => c = b + 3 ∨ c = b + 4) g g := gb_Fr.rf
  rcases gb_ite_e h with h | h
  · cases h
    exact Fg
  · obtain ⟨-, h⟩ := gb_ck_e h
    obtain ⟨g2, eg2, h⟩ := gb_let_x h
    have Fg2 := gb_Fr.tr Fg (gb_Fr.pi (Or.inl (rfl)) eg2)
    obtain ⟨-, h⟩ := gb_ck_e h
    obtain ⟨g4, eg4, h⟩ := gb_let_x h
    have Fg4 := gb_Fr.tr Fg2 (gb_Fr.pi (Or.inr (rfl)) eg4)
    cases h
    exact Fg4
set_option maxRecDepth 100000 in
set_option maxHeartbeats 4000000 in
theorem w_X7_endPiece {sh : List gb_Sh} {b : Nat} {x1 : Int32} {g : gb_G}  {o : (gb_G)} (h : f_X7_endPiece sh g b x1 = some o) : gb_Fr (fun c k => c = b + 5) g o := by
  unfold f_X7_endPiece at h
  have Fg : gb_Fr (fun c k => c = b + 5) g g := gb_Fr.rf
  obtain ⟨r1, er1, h⟩ := gb_bd_e h
  have Fr1 := gb_Fr.tr Fg (gb_Fr.up (w_X10_within er1) (fun _ _ hw => hw.elim))
  rcases gb_ite_e h with h | h
  · cases h
    exact Fr1
  · obtain ⟨-, h⟩ := gb_ck_e h
    obtain ⟨g4, eg4, h⟩ := gb_let_x h
    have Fg4 := gb_Fr.tr Fr1 (gb_Fr.pi (rfl) eg4)
    cases h
    exact Fg4
set_option maxRecDepth 100000 in
set_option maxHeartbeats 4000000 in
theorem w_X7_emit {sh : List gb_Sh} {b : Nat} {x1 : Int32} {x2 : Int32} {g : gb_G}  {o : (gb_G × Int32)} (h : f_X7_emit sh g b x1 x2 = some o) : gb_Fr (fun c k => (c = b ∧ k = 0) ∨ c = b + 1 ∨ c = b + 2) g o.1 := by
  unfold f_X7_emit at h
  have Fg : gb_Fr (fun c k => (c = b ∧ k = 0) ∨ c = b + 1 ∨ c = b + 2) g g := gb_Fr.rf
  rcases gb_ite_e h with h | h
  · cases h
    exact Fg
  · rcases gb_ite_e h with h | h
    · cases h
      exact Fg
    · obtain ⟨-, h⟩ := gb_ck_e h
      obtain ⟨g2, eg2, h⟩ := gb_let_x h
      have Fg2 := gb_Fr.tr Fg (gb_Fr.pi (Or.inr (Or.inl (rfl))) eg2)
      obtain ⟨-, h⟩ := gb_ck_e h
      obtain ⟨g4, eg4, h⟩ := gb_let_x h
      have Fg4 := gb_Fr.tr Fg2 (gb_Fr.pi (Or.inr (Or.inr (rfl))) eg4)
      obtain ⟨g5, eg5, h⟩ := gb_let_x h
      have Fg5 := gb_Fr.tr Fg4 (gb_Fr.pi (Or.inl (⟨rfl, rfl⟩)) eg5)
      cases h
      exact Fg5
set_option maxRecDepth 100000 in
set_option maxHeartbeats 4000000 in
theorem w_X7_aimHere {sh : List gb_Sh} {b : Nat} {x1 : Int32} {g : gb_G}  {o : (gb_G)} (h : f_X7_aimHere sh g b x1 = some o) : gb_Fr (fun c k => c = b + 2) g o := by
  unfold f_X7_aimHere at h
  have Fg : gb_Fr (fun c k => c = b + 2) g g := gb_Fr.rf
  obtain ⟨r1, er1, h⟩ := gb_bd_e h
  have Fr1 := gb_Fr.tr Fg (gb_Fr.up (w_X10_within er1) (fun _ _ hw => hw.elim))
  rcases gb_ite_e h with h | h
  · cases h
    exact Fr1
  · obtain ⟨-, h⟩ := gb_ck_e h
    obtain ⟨g4, eg4, h⟩ := gb_let_x h
    have Fg4 := gb_Fr.tr Fr1 (gb_Fr.pi (rfl) eg4)
    cases h
    exact Fg4
set_option maxRecDepth 100000 in
set_option maxHeartbeats 4000000 in
theorem w_X9_byteAt {sh : List gb_Sh} {x1 : Int32} {g : gb_G}  {o : (gb_G × Int32)} (h : f_X9_byteAt sh g x1 = some o) : gb_Fr (fun _ _ => False) g o.1 := by
  unfold f_X9_byteAt at h
  have Fg : gb_Fr (fun _ _ => False) g g := gb_Fr.rf
  rcases gb_ite_e h with h | h
  · cases h
    exact Fg
  · rcases gb_ite_e h with h | h
    · cases h
      exact Fg
    · rcases gb_ite_e h with h | h
      · cases h
        exact Fg
      · obtain ⟨-, h⟩ := gb_ck_e h
        cases h
        exact Fg
set_option maxRecDepth 100000 in
set_option maxHeartbeats 4000000 in
theorem w_X9_kindOf_14 {sh : List gb_Sh} {y0 : Int32} {g : gb_G}  {o : (gb_G × Int32)} (h : f_X9_kindOf_14 sh g y0 = some o) : gb_Fr (fun _ _ => False) g o.1 := by
  unfold f_X9_kindOf_14 at h
  have Fg : gb_Fr (fun _ _ => False) g g := gb_Fr.rf
  rcases gb_ite_e h with h | h
  · cases h
    exact Fg
  · rcases gb_ite_e h with h | h
    · cases h
      exact Fg
    · cases h
      exact Fg
set_option maxRecDepth 100000 in
set_option maxHeartbeats 4000000 in
theorem w_X9_kindOf {sh : List gb_Sh} {x1 : Int32} {g : gb_G}  {o : (gb_G × Int32)} (h : f_X9_kindOf sh g x1 = some o) : gb_Fr (fun _ _ => False) g o.1 := by
  unfold f_X9_kindOf at h
  have Fg : gb_Fr (fun _ _ => False) g g := gb_Fr.rf
  rcases gb_ite_e h with h | h
  · exact gb_Fr.tr Fg (w_X9_kindOf_14 h)
  · rcases gb_ite_e h with h | h
    · exact gb_Fr.tr Fg (w_X9_kindOf_14 h)
    · cases h
      exact Fg
set_option maxRecDepth 100000 in
set_option maxHeartbeats 4000000 in
theorem w_X9_step_77 {sh : List gb_Sh}  : ∀ (n : Nat) {g : gb_G} {o : (gb_G)} (h : f_X9_step_77 sh n g = some o), gb_Fr (fun c k => (c = 43 ∧ k = 2) ∨ (c = 43 ∧ k = 3) ∨ (c = 43 ∧ k = 4)) g o := by
  intro n
  induction n with
  | zero => intro g o h; cases h
  | succ n ih =>
    intro g o h
    rw [f_X9_step_77] at h
    have Fg : gb_Fr (fun c k => (c = 43 ∧ k = 2) ∨ (c = 43 ∧ k = 3) ∨ (c = 43 ∧ k = 4)) g g := gb_Fr.rf
    rcases gb_ite_e h with h | h
    · cases h
      exact Fg
    · rcases gb_ite_e h with h | h
      · cases h
        exact Fg
      · obtain ⟨r10, er10, h⟩ := gb_bd_e h
        have Fr10 := gb_Fr.tr Fg (gb_Fr.up (w_X9_byteAt er10) (fun _ _ hw => hw.elim))
        obtain ⟨r12, er12, h⟩ := gb_bd_e h
        have Fr12 := gb_Fr.tr Fr10 (gb_Fr.up (w_X9_kindOf er12) (fun _ _ hw => hw.elim))
        rcases gb_ite_e h with h | h
        · obtain ⟨g14, eg14, h⟩ := gb_let_x h
          have Fg14 := gb_Fr.tr Fr12 (gb_Fr.pi (Or.inr (Or.inl (⟨rfl, rfl⟩))) eg14)
          exact gb_Fr.tr Fg14 (ih h)
        · cases h
          exact Fr12
set_option maxRecDepth 100000 in
set_option maxHeartbeats 4000000 in
theorem w_X9_step_45 {sh : List gb_Sh} {g : gb_G}  {o : (gb_G)} (h : f_X9_step_45 sh g = some o) : gb_Fr (fun c k => (c = 43 ∧ k = 2) ∨ (c = 43 ∧ k = 3) ∨ (c = 43 ∧ k = 4)) g o := by
  unfold f_X9_step_45 at h
  have Fg : gb_Fr (fun c k => (c = 43 ∧ k = 2) ∨ (c = 43 ∧ k = 3) ∨ (c = 43 ∧ k = 4)) g g := gb_Fr.rf
  obtain ⟨r2, er2, h⟩ := gb_bd_e h
  have Fr2 := gb_Fr.tr Fg (gb_Fr.up (w_X9_byteAt er2) (fun _ _ hw => hw.elim))
  obtain ⟨r4, er4, h⟩ := gb_bd_e h
  have Fr4 := gb_Fr.tr Fr2 (gb_Fr.up (w_X9_kindOf er4) (fun _ _ hw => hw.elim))
  obtain ⟨g6, eg6, h⟩ := gb_let_x h
  have Fg6 := gb_Fr.tr Fr4 (gb_Fr.pi (Or.inr (Or.inr (⟨rfl, rfl⟩))) eg6)
  obtain ⟨r7, er7, h⟩ := gb_bd_e h
  have Fr7 := gb_Fr.tr Fg6 (gb_Fr.up (w_J9_min_7cf53 er7) (fun _ _ hw => hw.elim))
  obtain ⟨g9, eg9, h⟩ := gb_let_x h
  have Fg9 := gb_Fr.tr Fr7 (gb_Fr.pi (Or.inr (Or.inl (⟨rfl, rfl⟩))) eg9)
  exact gb_Fr.tr Fg9 (w_X9_step_77 _ h)
set_option maxRecDepth 100000 in
set_option maxHeartbeats 4000000 in
theorem w_X9_step_8 {sh : List gb_Sh}  : ∀ (n : Nat) {g : gb_G} {o : (gb_G)} (h : f_X9_step_8 sh n g = some o), gb_Fr (fun c k => (c = 43 ∧ k = 2) ∨ (c = 43 ∧ k = 3) ∨ (c = 43 ∧ k = 4)) g o := by
  intro n
  induction n with
  | zero => intro g o h; cases h
  | succ n ih =>
    intro g o h
    rw [f_X9_step_8] at h
    have Fg : gb_Fr (fun c k => (c = 43 ∧ k = 2) ∨ (c = 43 ∧ k = 3) ∨ (c = 43 ∧ k = 4)) g g := gb_Fr.rf
    rcases gb_ite_e h with h | h
    · exact gb_Fr.tr Fg (w_X9_step_45 h)
    · obtain ⟨r15, er15, h⟩ := gb_bd_e h
      have Fr15 := gb_Fr.tr Fg (gb_Fr.up (w_X9_byteAt er15) (fun _ _ hw => hw.elim))
      rcases gb_ite_e h with h | h
      · obtain ⟨g17, eg17, h⟩ := gb_let_x h
        have Fg17 := gb_Fr.tr Fr15 (gb_Fr.pi (Or.inl (⟨rfl, rfl⟩)) eg17)
        exact gb_Fr.tr Fg17 (ih h)
      · exact gb_Fr.tr Fr15 (w_X9_step_45 h)
set_option maxRecDepth 100000 in
set_option maxHeartbeats 4000000 in
theorem w_X9_step {sh : List gb_Sh} {g : gb_G}  {o : (gb_G)} (h : f_X9_step sh g = some o) : gb_Fr (fun c k => (c = 43 ∧ k = 2) ∨ (c = 43 ∧ k = 3) ∨ (c = 43 ∧ k = 4)) g o := by
  unfold f_X9_step at h
  have Fg : gb_Fr (fun c k => (c = 43 ∧ k = 2) ∨ (c = 43 ∧ k = 3) ∨ (c = 43 ∧ k = 4)) g g := gb_Fr.rf
  obtain ⟨g1, eg1, h⟩ := gb_let_x h
  have Fg1 := gb_Fr.tr Fg (gb_Fr.pi (Or.inl (⟨rfl, rfl⟩)) eg1)
  exact gb_Fr.tr Fg1 (w_X9_step_8 _ h)
set_option maxRecDepth 100000 in
set_option maxHeartbeats 4000000 in
theorem w_J0_isLatin1_aae02 {sh : List gb_Sh} {s0 : Nat} {g : gb_G}  {o : (gb_G × Int32)} (h : f_J0_isLatin1_aae02 sh g s0 = some o) : gb_Fr (fun _ _ => False) g o.1 := by
  unfold f_J0_isLatin1_aae02 at h
  have Fg : gb_Fr (fun _ _ => False) g g := gb_Fr.rf
  cases h
  exact Fg
set_option maxRecDepth 100000 in
set_option maxHeartbeats 4000000 in
theorem w_J3_checkIndex_8e157 {sh : List gb_Sh} {x1 : Int32} {x2 : Int32} {g : gb_G}  {o : (gb_G × Int32)} (h : f_J3_checkIndex_8e157 sh g x1 x2 = some o) : gb_Fr (fun _ _ => False) g o.1 := by
  unfold f_J3_checkIndex_8e157 at h
  have Fg : gb_Fr (fun _ _ => False) g g := gb_Fr.rf
  rcases gb_ite_e h with h | h
  · cases h
  · rcases gb_ite_e h with h | h
    · cases h
      exact Fg
    · cases h
set_option maxRecDepth 100000 in
set_option maxHeartbeats 4000000 in
theorem w_J0_checkIndex_df160 {sh : List gb_Sh} {x1 : Int32} {x2 : Int32} {g : gb_G}  {o : (gb_G)} (h : f_J0_checkIndex_df160 sh g x1 x2 = some o) : gb_Fr (fun _ _ => False) g o := by
  unfold f_J0_checkIndex_df160 at h
  have Fg : gb_Fr (fun _ _ => False) g g := gb_Fr.rf
  obtain ⟨r2, er2, h⟩ := gb_bd_e h
  have Fr2 := gb_Fr.tr Fg (gb_Fr.up (w_J3_checkIndex_8e157 er2) (fun _ _ hw => hw.elim))
  cases h
  exact Fr2
set_option maxRecDepth 100000 in
set_option maxHeartbeats 4000000 in
theorem w_J1_charAt_3b067 {sh : List gb_Sh} {s1 : Nat} {x2 : Int32} {g : gb_G}  {o : (gb_G × Int32)} (h : f_J1_charAt_3b067 sh g s1 x2 = some o) : gb_Fr (fun _ _ => False) g o.1 := by
  unfold f_J1_charAt_3b067 at h
  have Fg : gb_Fr (fun _ _ => False) g g := gb_Fr.rf
  obtain ⟨r1, er1, h⟩ := gb_bd_e h
  have Fr1 := gb_Fr.tr Fg (gb_Fr.up (w_J0_checkIndex_df160 er1) (fun _ _ hw => hw.elim))
  obtain ⟨-, h⟩ := gb_ck_e h
  obtain ⟨-, h⟩ := gb_nr_e h
  cases h
  exact Fr1
set_option maxRecDepth 100000 in
set_option maxHeartbeats 4000000 in
theorem w_J0_charAt_5068e {sh : List gb_Sh} {s0 : Nat} {x1 : Int32} {g : gb_G}  {o : (gb_G × Int32)} (h : f_J0_charAt_5068e sh g s0 x1 = some o) : gb_Fr (fun _ _ => False) g o.1 := by
  unfold f_J0_charAt_5068e at h
  have Fg : gb_Fr (fun _ _ => False) g g := gb_Fr.rf
  obtain ⟨r1, er1, h⟩ := gb_bd_e h
  have Fr1 := gb_Fr.tr Fg (gb_Fr.up (w_J0_isLatin1_aae02 er1) (fun _ _ hw => hw.elim))
  rcases gb_ite_e h with h | h
  · cases h
  · obtain ⟨r3, er3, h⟩ := gb_bd_e h
    have Fr3 := gb_Fr.tr Fr1 (gb_Fr.up (w_J1_charAt_3b067 er3) (fun _ _ hw => hw.elim))
    obtain ⟨-, h⟩ := gb_nr_e h
    cases h
    exact Fr3
set_option maxRecDepth 100000 in
set_option maxHeartbeats 4000000 in
theorem w_J0_coder_7d493 {sh : List gb_Sh} {s0 : Nat} {g : gb_G}  {o : (gb_G × Int32)} (h : f_J0_coder_7d493 sh g s0 = some o) : gb_Fr (fun _ _ => False) g o.1 := by
  unfold f_J0_coder_7d493 at h
  have Fg : gb_Fr (fun _ _ => False) g g := gb_Fr.rf
  cases h
  exact Fg
set_option maxRecDepth 100000 in
set_option maxHeartbeats 4000000 in
theorem w_J0_length_8abf5 {sh : List gb_Sh} {s0 : Nat} {g : gb_G}  {o : (gb_G × Int32)} (h : f_J0_length_8abf5 sh g s0 = some o) : gb_Fr (fun _ _ => False) g o.1 := by
  unfold f_J0_length_8abf5 at h
  have Fg : gb_Fr (fun _ _ => False) g g := gb_Fr.rf
  obtain ⟨r1, er1, h⟩ := gb_bd_e h
  have Fr1 := gb_Fr.tr Fg (gb_Fr.up (w_J0_coder_7d493 er1) (fun _ _ hw => hw.elim))
  cases h
  exact Fr1
set_option maxRecDepth 100000 in
set_option maxHeartbeats 4000000 in
theorem w_X9_wordIn_57 {sh : List gb_Sh} {s1 : Nat} {K108 : gb_G → Int32 → Int32 → Int32 → Int32 → Option (gb_G × Int32)} {y2 : Int32} {y5 : Int32} {g : gb_G} (hK108 : ∀ {a0 : gb_G} {a1 : Int32} {a2 : Int32} {a3 : Int32} {a4 : Int32} {o : (gb_G × Int32)}, K108 a0 a1 a2 a3 a4 = some o → gb_Fr (fun _ _ => False) a0 o.1) {o : (gb_G × Int32)} (h : f_X9_wordIn_57 sh s1 K108 g y2 y5 = some o) : gb_Fr (fun _ _ => False) g o.1 := by
  unfold f_X9_wordIn_57 at h
  have Fg : gb_Fr (fun _ _ => False) g g := gb_Fr.rf
  exact gb_Fr.tr Fg (hK108 h)
set_option maxRecDepth 100000 in
set_option maxHeartbeats 4000000 in
theorem w_X9_wordIn_42 {sh : List gb_Sh} {s1 : Nat} {K108 : gb_G → Int32 → Int32 → Int32 → Int32 → Option (gb_G × Int32)} {y2 : Int32} {y3 : Int32} {y4 : Int32} {y5 : Int32} {g : gb_G} (hK108 : ∀ {a0 : gb_G} {a1 : Int32} {a2 : Int32} {a3 : Int32} {a4 : Int32} {o : (gb_G × Int32)}, K108 a0 a1 a2 a3 a4 = some o → gb_Fr (fun _ _ => False) a0 o.1) {o : (gb_G × Int32)} (h : f_X9_wordIn_42 sh s1 K108 g y2 y3 y4 y5 = some o) : gb_Fr (fun _ _ => False) g o.1 := by
  unfold f_X9_wordIn_42 at h
  have Fg : gb_Fr (fun _ _ => False) g g := gb_Fr.rf
  rcases gb_ite_e h with h | h
  · exact gb_Fr.tr Fg (w_X9_wordIn_57 (hK108) h)
  · rcases gb_ite_e h with h | h
    · cases h
      exact Fg
    · exact gb_Fr.tr Fg (w_X9_wordIn_57 (hK108) h)
set_option maxRecDepth 100000 in
set_option maxHeartbeats 4000000 in
theorem w_X9_wordIn_108 {sh : List gb_Sh} {s1 : Nat} {K13 : gb_G → Int32 → Int32 → Int32 → Int32 → Option (gb_G × Int32)} {y2 : Int32} {y3 : Int32} {y4 : Int32} {y5 : Int32} {g : gb_G} (hK13 : ∀ {a0 : gb_G} {a1 : Int32} {a2 : Int32} {a3 : Int32} {a4 : Int32} {o : (gb_G × Int32)}, K13 a0 a1 a2 a3 a4 = some o → gb_Fr (fun _ _ => False) a0 o.1) {o : (gb_G × Int32)} (h : f_X9_wordIn_108 sh s1 K13 g y2 y3 y4 y5 = some o) : gb_Fr (fun _ _ => False) g o.1 := by
  unfold f_X9_wordIn_108 at h
  have Fg : gb_Fr (fun _ _ => False) g g := gb_Fr.rf
  exact gb_Fr.tr Fg (hK13 h)
set_option maxRecDepth 100000 in
set_option maxHeartbeats 4000000 in
theorem w_X9_wordIn_103 {sh : List gb_Sh} {s1 : Nat} {K108 : gb_G → Int32 → Int32 → Int32 → Int32 → Option (gb_G × Int32)} {y2 : Int32} {y3 : Int32} {y5 : Int32} {z0 : Int32} {g : gb_G} (hK108 : ∀ {a0 : gb_G} {a1 : Int32} {a2 : Int32} {a3 : Int32} {a4 : Int32} {o : (gb_G × Int32)}, K108 a0 a1 a2 a3 a4 = some o → gb_Fr (fun _ _ => False) a0 o.1) {o : (gb_G × Int32)} (h : f_X9_wordIn_103 sh s1 K108 g y2 y3 y5 z0 = some o) : gb_Fr (fun _ _ => False) g o.1 := by
  unfold f_X9_wordIn_103 at h
  have Fg : gb_Fr (fun _ _ => False) g g := gb_Fr.rf
  exact gb_Fr.tr Fg (hK108 h)
set_option maxRecDepth 100000 in
set_option maxHeartbeats 4000000 in
theorem w_X9_wordIn_13 {sh : List gb_Sh} {s1 : Nat}  : ∀ (n : Nat) {g : gb_G} {y2 : Int32} {y3 : Int32} {y4 : Int32} {y5 : Int32} {o : (gb_G × Int32)} (h : f_X9_wordIn_13 sh s1 n g y2 y3 y4 y5 = some o), gb_Fr (fun _ _ => False) g o.1 := by
  intro n
  induction n with
  | zero => intro g y2 y3 y4 y5 o h; cases h
  | succ n ih =>
    intro g y2 y3 y4 y5 o h
    rw [f_X9_wordIn_13] at h
    have Fg : gb_Fr (fun _ _ => False) g g := gb_Fr.rf
    obtain ⟨r1, er1, h⟩ := gb_bd_e h
    have Fr1 := gb_Fr.tr Fg (gb_Fr.up (w_J0_length_8abf5 er1) (fun _ _ hw => hw.elim))
    rcases gb_ite_e h with h | h
    · cases h
      exact Fr1
    · obtain ⟨r3, er3, h⟩ := gb_bd_e h
      have Fr3 := gb_Fr.tr Fr1 (gb_Fr.up (w_J0_length_8abf5 er3) (fun _ _ hw => hw.elim))
      rcases gb_ite_e h with h | h
      · exact gb_Fr.tr Fr3 (w_X9_wordIn_42 (fun hh => w_X9_wordIn_108 (fun hh => ih hh) hh) h)
      · obtain ⟨r5, er5, h⟩ := gb_bd_e h
        have Fr5 := gb_Fr.tr Fr3 (gb_Fr.up (w_J0_charAt_5068e er5) (fun _ _ hw => hw.elim))
        rcases gb_ite_e h with h | h
        · exact gb_Fr.tr Fr5 (w_X9_wordIn_42 (fun hh => w_X9_wordIn_108 (fun hh => ih hh) hh) h)
        · rcases gb_ite_e h with h | h
          · exact gb_Fr.tr Fr5 (w_X9_wordIn_103 (fun hh => w_X9_wordIn_108 (fun hh => ih hh) hh) h)
          · rcases gb_ite_e h with h | h
            · exact gb_Fr.tr Fr5 (w_X9_wordIn_103 (fun hh => w_X9_wordIn_108 (fun hh => ih hh) hh) h)
            · obtain ⟨r7, er7, h⟩ := gb_bd_e h
              have Fr7 := gb_Fr.tr Fr5 (gb_Fr.up (w_X9_byteAt er7) (fun _ _ hw => hw.elim))
              obtain ⟨r9, er9, h⟩ := gb_bd_e h
              have Fr9 := gb_Fr.tr Fr7 (gb_Fr.up (w_J0_charAt_5068e er9) (fun _ _ hw => hw.elim))
              rcases gb_ite_e h with h | h
              · exact gb_Fr.tr Fr9 (w_X9_wordIn_103 (fun hh => w_X9_wordIn_108 (fun hh => ih hh) hh) h)
              · exact gb_Fr.tr Fr9 (w_X9_wordIn_103 (fun hh => w_X9_wordIn_108 (fun hh => ih hh) hh) h)
set_option maxRecDepth 100000 in
set_option maxHeartbeats 4000000 in
theorem w_X9_wordIn {sh : List gb_Sh} {s1 : Nat} {g : gb_G}  {o : (gb_G × Int32)} (h : f_X9_wordIn sh g s1 = some o) : gb_Fr (fun _ _ => False) g o.1 := by
  unfold f_X9_wordIn at h
  have Fg : gb_Fr (fun _ _ => False) g g := gb_Fr.rf
  exact gb_Fr.tr Fg (w_X9_wordIn_13 _ h)
set_option maxRecDepth 100000 in
set_option maxHeartbeats 4000000 in
theorem w_X8_readKeyword {sh : List gb_Sh} {s1 : Nat} {g : gb_G}  {o : (gb_G × Int32)} (h : f_X8_readKeyword sh g s1 = some o) : gb_Fr (fun c k => (c = 43 ∧ k = 2) ∨ (c = 43 ∧ k = 3) ∨ (c = 43 ∧ k = 4)) g o.1 := by
  unfold f_X8_readKeyword at h
  have Fg : gb_Fr (fun c k => (c = 43 ∧ k = 2) ∨ (c = 43 ∧ k = 3) ∨ (c = 43 ∧ k = 4)) g g := gb_Fr.rf
  obtain ⟨r1, er1, h⟩ := gb_bd_e h
  have Fr1 := gb_Fr.tr Fg (gb_Fr.up (w_X9_wordIn er1) (fun _ _ hw => hw.elim))
  rcases gb_ite_e h with h | h
  · cases h
    exact Fr1
  · obtain ⟨r3, er3, h⟩ := gb_bd_e h
    have Fr3 := gb_Fr.tr Fr1 (gb_Fr.up (w_X9_step er3) (fun _ _ hw => hw.elim (fun h0 => Or.inl (h0)) (fun h0 => h0.elim (fun h1 => Or.inr (Or.inl (h1))) (fun h1 => Or.inr (Or.inr (h1))))))
    cases h
    exact Fr3
set_option maxRecDepth 100000 in
set_option maxHeartbeats 4000000 in
theorem w_X9_number_17 {sh : List gb_Sh}  : ∀ (n : Nat) {g : gb_G} {y1 : Int32} {y2 : Int32} {o : (gb_G × Int32)} (h : f_X9_number_17 sh n g y1 y2 = some o), gb_Fr (fun _ _ => False) g o.1 := by
  intro n
  induction n with
  | zero => intro g y1 y2 o h; cases h
  | succ n ih =>
    intro g y1 y2 o h
    rw [f_X9_number_17] at h
    have Fg : gb_Fr (fun _ _ => False) g g := gb_Fr.rf
    rcases gb_ite_e h with h | h
    · cases h
      exact Fg
    · obtain ⟨r1, er1, h⟩ := gb_bd_e h
      have Fr1 := gb_Fr.tr Fg (gb_Fr.up (w_X9_byteAt er1) (fun _ _ hw => hw.elim))
      obtain ⟨r3, er3, h⟩ := gb_bd_e h
      have Fr3 := gb_Fr.tr Fr1 (gb_Fr.up (w_J9_min_7cf53 er3) (fun _ _ hw => hw.elim))
      exact gb_Fr.tr Fr3 (ih h)
set_option maxRecDepth 100000 in
set_option maxHeartbeats 4000000 in
theorem w_X9_number {sh : List gb_Sh} {g : gb_G}  {o : (gb_G × Int32)} (h : f_X9_number sh g = some o) : gb_Fr (fun _ _ => False) g o.1 := by
  unfold f_X9_number at h
  have Fg : gb_Fr (fun _ _ => False) g g := gb_Fr.rf
  rcases gb_ite_e h with h | h
  · exact gb_Fr.tr Fg (w_X9_number_17 _ h)
  · cases h
    exact Fg
set_option maxRecDepth 100000 in
set_option maxHeartbeats 4000000 in
theorem w_X8_readNumber {sh : List gb_Sh} {g : gb_G}  {o : (gb_G × Int32)} (h : f_X8_readNumber sh g = some o) : gb_Fr (fun c k => (c = 43 ∧ k = 2) ∨ (c = 43 ∧ k = 3) ∨ (c = 43 ∧ k = 4) ∨ (c = 46 ∧ k = 0) ∨ c = 47 ∨ c = 48) g o.1 := by
  unfold f_X8_readNumber at h
  have Fg : gb_Fr (fun c k => (c = 43 ∧ k = 2) ∨ (c = 43 ∧ k = 3) ∨ (c = 43 ∧ k = 4) ∨ (c = 46 ∧ k = 0) ∨ c = 47 ∨ c = 48) g g := gb_Fr.rf
  obtain ⟨r1, er1, h⟩ := gb_bd_e h
  have Fr1 := gb_Fr.tr Fg (gb_Fr.up (w_X9_number er1) (fun _ _ hw => hw.elim))
  rcases gb_ite_e h with h | h
  · obtain ⟨r3, er3, h⟩ := gb_bd_e h
    have Fr3 := gb_Fr.tr Fr1 (gb_Fr.up (w_X9_step er3) (fun _ _ hw => hw.elim (fun h0 => Or.inl (h0)) (fun h0 => h0.elim (fun h1 => Or.inr (Or.inl (h1))) (fun h1 => Or.inr (Or.inr (Or.inl (h1)))))))
    obtain ⟨r5, er5, h⟩ := gb_bd_e h
    have Fr5 := gb_Fr.tr Fr3 (gb_Fr.up (w_X7_emit er5) (fun _ _ hw => hw.elim (fun h0 => Or.inr (Or.inr (Or.inr (Or.inl (h0))))) (fun h0 => h0.elim (fun h1 => Or.inr (Or.inr (Or.inr (Or.inr (Or.inl (h1)))))) (fun h1 => Or.inr (Or.inr (Or.inr (Or.inr (Or.inr (h1)))))))))
    cases h
    exact Fr5
  · cases h
    exact Fr1
set_option maxRecDepth 100000 in
set_option maxHeartbeats 4000000 in
theorem w_X9_isSign {sh : List gb_Sh} {x1 : Int32} {g : gb_G}  {o : (gb_G × Int32)} (h : f_X9_isSign sh g x1 = some o) : gb_Fr (fun _ _ => False) g o.1 := by
  unfold f_X9_isSign at h
  have Fg : gb_Fr (fun _ _ => False) g g := gb_Fr.rf
  obtain ⟨r1, er1, h⟩ := gb_bd_e h
  have Fr1 := gb_Fr.tr Fg (gb_Fr.up (w_X9_byteAt er1) (fun _ _ hw => hw.elim))
  rcases gb_ite_e h with h | h
  · cases h
    exact Fr1
  · cases h
    exact Fr1
set_option maxRecDepth 100000 in
set_option maxHeartbeats 4000000 in
theorem w_X8_readSign {sh : List gb_Sh} {x1 : Int32} {g : gb_G}  {o : (gb_G × Int32)} (h : f_X8_readSign sh g x1 = some o) : gb_Fr (fun c k => (c = 43 ∧ k = 2) ∨ (c = 43 ∧ k = 3) ∨ (c = 43 ∧ k = 4)) g o.1 := by
  unfold f_X8_readSign at h
  have Fg : gb_Fr (fun c k => (c = 43 ∧ k = 2) ∨ (c = 43 ∧ k = 3) ∨ (c = 43 ∧ k = 4)) g g := gb_Fr.rf
  obtain ⟨r1, er1, h⟩ := gb_bd_e h
  have Fr1 := gb_Fr.tr Fg (gb_Fr.up (w_X9_isSign er1) (fun _ _ hw => hw.elim))
  rcases gb_ite_e h with h | h
  · cases h
    exact Fr1
  · obtain ⟨r3, er3, h⟩ := gb_bd_e h
    have Fr3 := gb_Fr.tr Fr1 (gb_Fr.up (w_X9_step er3) (fun _ _ hw => hw.elim (fun h0 => Or.inl (h0)) (fun h0 => h0.elim (fun h1 => Or.inr (Or.inl (h1))) (fun h1 => Or.inr (Or.inr (h1))))))
    cases h
    exact Fr3
set_option maxRecDepth 100000 in
set_option maxHeartbeats 4000000 in
theorem w_X8_readWord_114 {sh : List gb_Sh} {y1 : Int32} {z0 : Int32} {z1 : Int32} {g : gb_G}  {o : (gb_G × Int32)} (h : f_X8_readWord_114 sh g y1 z0 z1 = some o) : gb_Fr (fun c k => (c = 43 ∧ k = 2) ∨ (c = 43 ∧ k = 3) ∨ (c = 43 ∧ k = 4) ∨ c = 46 ∨ c = 47 ∨ c = 48) g o.1 := by
  unfold f_X8_readWord_114 at h
  have Fg : gb_Fr (fun c k => (c = 43 ∧ k = 2) ∨ (c = 43 ∧ k = 3) ∨ (c = 43 ∧ k = 4) ∨ c = 46 ∨ c = 47 ∨ c = 48) g g := gb_Fr.rf
  obtain ⟨-, h⟩ := gb_bo_e h
  obtain ⟨g5, eg5, h⟩ := gb_let_x h
  have Fg5 := gb_Fr.tr Fg (gb_Fr.pi (Or.inr (Or.inr (Or.inr (Or.inl (rfl))))) eg5)
  obtain ⟨r7, er7, h⟩ := gb_bd_e h
  have Fr7 := gb_Fr.tr Fg5 (gb_Fr.up (w_X7_emit er7) (fun _ _ hw => hw.elim (fun h0 => Or.inr (Or.inr (Or.inr (Or.inl (h0.1))))) (fun h0 => h0.elim (fun h1 => Or.inr (Or.inr (Or.inr (Or.inr (Or.inl (h1)))))) (fun h1 => Or.inr (Or.inr (Or.inr (Or.inr (Or.inr (h1)))))))))
  cases h
  exact Fr7
set_option maxRecDepth 100000 in
set_option maxHeartbeats 4000000 in
theorem w_X8_readWord_89 {sh : List gb_Sh} {y1 : Int32} {g : gb_G}  {o : (gb_G × Int32)} (h : f_X8_readWord_89 sh g y1 = some o) : gb_Fr (fun c k => (c = 43 ∧ k = 2) ∨ (c = 43 ∧ k = 3) ∨ (c = 43 ∧ k = 4) ∨ c = 46 ∨ c = 47 ∨ c = 48) g o.1 := by
  unfold f_X8_readWord_89 at h
  have Fg : gb_Fr (fun c k => (c = 43 ∧ k = 2) ∨ (c = 43 ∧ k = 3) ∨ (c = 43 ∧ k = 4) ∨ c = 46 ∨ c = 47 ∨ c = 48) g g := gb_Fr.rf
  rcases gb_ite_e h with h | h
  · exact gb_Fr.tr Fg (w_X8_readWord_114 h)
  · rcases gb_ite_e h with h | h
    · exact gb_Fr.tr Fg (w_X8_readWord_114 h)
    · exact gb_Fr.tr Fg (w_X8_readWord_114 h)
set_option maxRecDepth 100000 in
set_option maxHeartbeats 4000000 in
theorem w_X8_readWord_86 {sh : List gb_Sh} {K89 : gb_G → Int32 → Option (gb_G × Int32)} {y2 : Int32} {z0 : Int32} {g : gb_G} (hK89 : ∀ {a0 : gb_G} {a1 : Int32} {o : (gb_G × Int32)}, K89 a0 a1 = some o → gb_Fr (fun c k => (c = 43 ∧ k = 2) ∨ (c = 43 ∧ k = 3) ∨ (c = 43 ∧ k = 4) ∨ c = 46 ∨ c = 47 ∨ c = 48) a0 o.1) {o : (gb_G × Int32)} (h : f_X8_readWord_86 sh K89 g y2 z0 = some o) : gb_Fr (fun c k => (c = 43 ∧ k = 2) ∨ (c = 43 ∧ k = 3) ∨ (c = 43 ∧ k = 4) ∨ c = 46 ∨ c = 47 ∨ c = 48) g o.1 := by
  unfold f_X8_readWord_86 at h
  have Fg : gb_Fr (fun c k => (c = 43 ∧ k = 2) ∨ (c = 43 ∧ k = 3) ∨ (c = 43 ∧ k = 4) ∨ c = 46 ∨ c = 47 ∨ c = 48) g g := gb_Fr.rf
  exact gb_Fr.tr Fg (hK89 h)
set_option maxRecDepth 100000 in
set_option maxHeartbeats 4000000 in
theorem w_X8_readWord_18 {sh : List gb_Sh} {z0 : Nat} {g : gb_G}  {o : (gb_G × Int32)} (h : f_X8_readWord_18 sh g z0 = some o) : gb_Fr (fun c k => (c = 43 ∧ k = 2) ∨ (c = 43 ∧ k = 3) ∨ (c = 43 ∧ k = 4) ∨ c = 46 ∨ c = 47 ∨ c = 48) g o.1 := by
  unfold f_X8_readWord_18 at h
  have Fg : gb_Fr (fun c k => (c = 43 ∧ k = 2) ∨ (c = 43 ∧ k = 3) ∨ (c = 43 ∧ k = 4) ∨ c = 46 ∨ c = 47 ∨ c = 48) g g := gb_Fr.rf
  obtain ⟨r1, er1, h⟩ := gb_bd_e h
  have Fr1 := gb_Fr.tr Fg (gb_Fr.up (w_X9_wordIn er1) (fun _ _ hw => hw.elim))
  rcases gb_ite_e h with h | h
  · cases h
    exact Fr1
  · obtain ⟨r3, er3, h⟩ := gb_bd_e h
    have Fr3 := gb_Fr.tr Fr1 (gb_Fr.up (w_X9_step er3) (fun _ _ hw => hw.elim (fun h0 => Or.inl (h0)) (fun h0 => h0.elim (fun h1 => Or.inr (Or.inl (h1))) (fun h1 => Or.inr (Or.inr (Or.inl (h1)))))))
    rcases gb_ite_e h with h | h
    · exact gb_Fr.tr Fr3 (w_X8_readWord_89 h)
    · rcases gb_ite_e h with h | h
      · exact gb_Fr.tr Fr3 (w_X8_readWord_89 h)
      · obtain ⟨r9, er9, h⟩ := gb_bd_e h
        have Fr9 := gb_Fr.tr Fr3 (gb_Fr.up (w_X9_number er9) (fun _ _ hw => hw.elim))
        obtain ⟨r11, er11, h⟩ := gb_bd_e h
        have Fr11 := gb_Fr.tr Fr9 (gb_Fr.up (w_X10_within er11) (fun _ _ hw => hw.elim))
        rcases gb_ite_e h with h | h
        · cases h
          exact Fr11
        · obtain ⟨r13, er13, h⟩ := gb_bd_e h
          have Fr13 := gb_Fr.tr Fr11 (gb_Fr.up (w_X9_step er13) (fun _ _ hw => hw.elim (fun h0 => Or.inl (h0)) (fun h0 => h0.elim (fun h1 => Or.inr (Or.inl (h1))) (fun h1 => Or.inr (Or.inr (Or.inl (h1)))))))
          rcases gb_ite_e h with h | h
          · exact gb_Fr.tr Fr13 (w_X8_readWord_86 (fun hh => w_X8_readWord_89 hh) h)
          · exact gb_Fr.tr Fr13 (w_X8_readWord_86 (fun hh => w_X8_readWord_89 hh) h)
set_option maxRecDepth 100000 in
set_option maxHeartbeats 4000000 in
theorem w_X8_readWord {sh : List gb_Sh} {g : gb_G}  {o : (gb_G × Int32)} (h : f_X8_readWord sh g = some o) : gb_Fr (fun c k => (c = 43 ∧ k = 2) ∨ (c = 43 ∧ k = 3) ∨ (c = 43 ∧ k = 4) ∨ c = 46 ∨ c = 47 ∨ c = 48) g o.1 := by
  unfold f_X8_readWord at h
  have Fg : gb_Fr (fun c k => (c = 43 ∧ k = 2) ∨ (c = 43 ∧ k = 3) ∨ (c = 43 ∧ k = 4) ∨ c = 46 ∨ c = 47 ∨ c = 48) g g := gb_Fr.rf
  rcases gb_ite_e h with h | h
  · exact gb_Fr.tr Fg (w_X8_readWord_18 h)
  · exact gb_Fr.tr Fg (w_X8_readWord_18 h)
set_option maxRecDepth 100000 in
set_option maxHeartbeats 4000000 in
theorem w_X9_isNumber {sh : List gb_Sh} {g : gb_G}  {o : (gb_G × Int32)} (h : f_X9_isNumber sh g = some o) : gb_Fr (fun _ _ => False) g o.1 := by
  unfold f_X9_isNumber at h
  have Fg : gb_Fr (fun _ _ => False) g g := gb_Fr.rf
  rcases gb_ite_e h with h | h
  · cases h
    exact Fg
  · cases h
    exact Fg
set_option maxRecDepth 100000 in
set_option maxHeartbeats 4000000 in
theorem w_X8_readPart {sh : List gb_Sh} {R_X8_readSum : gb_G → Int32 → Option (gb_G × Int32)} {x1 : Int32} {g : gb_G} (hR_X8_readSum : ∀ {a0 : gb_G} {a1 : Int32} {o : (gb_G × Int32)}, R_X8_readSum a0 a1 = some o → gb_Fr (fun c k => (c = 43 ∧ k = 2) ∨ (c = 43 ∧ k = 3) ∨ (c = 43 ∧ k = 4) ∨ (c = 45 ∧ k = 3) ∨ c = 46 ∨ c = 47 ∨ c = 48 ∨ c = 50) a0 o.1) {o : (gb_G × Int32)} (h : f_X8_readPart sh R_X8_readSum g x1 = some o) : gb_Fr (fun c k => (c = 43 ∧ k = 2) ∨ (c = 43 ∧ k = 3) ∨ (c = 43 ∧ k = 4) ∨ (c = 45 ∧ k = 3) ∨ c = 46 ∨ c = 47 ∨ c = 48 ∨ c = 50) g o.1 := by
  unfold f_X8_readPart at h
  have Fg : gb_Fr (fun c k => (c = 43 ∧ k = 2) ∨ (c = 43 ∧ k = 3) ∨ (c = 43 ∧ k = 4) ∨ (c = 45 ∧ k = 3) ∨ c = 46 ∨ c = 47 ∨ c = 48 ∨ c = 50) g g := gb_Fr.rf
  obtain ⟨r1, er1, h⟩ := gb_bd_e h
  have Fr1 := gb_Fr.tr Fg (gb_Fr.up (w_X9_isSign er1) (fun _ _ hw => hw.elim))
  rcases gb_ite_e h with h | h
  · rcases gb_ite_e h with h | h
    · obtain ⟨g3, eg3, h⟩ := gb_let_x h
      have Fg3 := gb_Fr.tr Fr1 (gb_Fr.pi (Or.inr (Or.inr (Or.inr (Or.inl (⟨rfl, rfl⟩))))) eg3)
      obtain ⟨r4, er4, h⟩ := gb_bd_e h
      have Fr4 := gb_Fr.tr Fg3 (gb_Fr.up (w_X9_isNumber er4) (fun _ _ hw => hw.elim))
      rcases gb_ite_e h with h | h
      · obtain ⟨r6, er6, h⟩ := gb_bd_e h
        have Fr6 := gb_Fr.tr Fr4 (gb_Fr.up (w_X8_readWord er6) (fun _ _ hw => hw.elim (fun h0 => Or.inl (h0)) (fun h0 => h0.elim (fun h1 => Or.inr (Or.inl (h1))) (fun h1 => h1.elim (fun h2 => Or.inr (Or.inr (Or.inl (h2)))) (fun h2 => h2.elim (fun h3 => Or.inr (Or.inr (Or.inr (Or.inr (Or.inl (h3)))))) (fun h3 => h3.elim (fun h4 => Or.inr (Or.inr (Or.inr (Or.inr (Or.inr (Or.inl (h4))))))) (fun h4 => Or.inr (Or.inr (Or.inr (Or.inr (Or.inr (Or.inr (Or.inl (h4))))))))))))))
        obtain ⟨-, h⟩ := gb_bo_e h
        cases h
        exact Fr6
      · obtain ⟨r9, er9, h⟩ := gb_bd_e h
        have Fr9 := gb_Fr.tr Fr4 (gb_Fr.up (w_X8_readNumber er9) (fun _ _ hw => hw.elim (fun h0 => Or.inl (h0)) (fun h0 => h0.elim (fun h1 => Or.inr (Or.inl (h1))) (fun h1 => h1.elim (fun h2 => Or.inr (Or.inr (Or.inl (h2)))) (fun h2 => h2.elim (fun h3 => Or.inr (Or.inr (Or.inr (Or.inr (Or.inl (h3.1)))))) (fun h3 => h3.elim (fun h4 => Or.inr (Or.inr (Or.inr (Or.inr (Or.inr (Or.inl (h4))))))) (fun h4 => Or.inr (Or.inr (Or.inr (Or.inr (Or.inr (Or.inr (Or.inl (h4))))))))))))))
        obtain ⟨-, h⟩ := gb_bo_e h
        cases h
        exact Fr9
    · cases h
      exact Fr1
  · rcases gb_ite_e h with h | h
    · cases h
      exact Fr1
    · obtain ⟨r12, er12, h⟩ := gb_bd_e h
      have Fr12 := gb_Fr.tr Fr1 (gb_Fr.up (w_X8_readSign er12) (fun _ _ hw => hw.elim (fun h0 => Or.inl (h0)) (fun h0 => h0.elim (fun h1 => Or.inr (Or.inl (h1))) (fun h1 => Or.inr (Or.inr (Or.inl (h1)))))))
      rcases gb_ite_e h with h | h
      · cases h
        exact Fr12
      · obtain ⟨r14, er14, h⟩ := gb_bd_e h
        have Fr14 := gb_Fr.tr Fr12 (hR_X8_readSum er14)
        rcases gb_ite_e h with h | h
        · cases h
          exact Fr14
        · obtain ⟨r16, er16, h⟩ := gb_bd_e h
          have Fr16 := gb_Fr.tr Fr14 (gb_Fr.up (w_X8_readSign er16) (fun _ _ hw => hw.elim (fun h0 => Or.inl (h0)) (fun h0 => h0.elim (fun h1 => Or.inr (Or.inl (h1))) (fun h1 => Or.inr (Or.inr (Or.inl (h1)))))))
          rcases gb_ite_e h with h | h
          · cases h
            exact Fr16
          · cases h
            exact Fr16
set_option maxRecDepth 100000 in
set_option maxHeartbeats 4000000 in
theorem w_J1_canEncode_9a6ad {sh : List gb_Sh} {x1 : Int32} {g : gb_G}  {o : (gb_G × Int32)} (h : f_J1_canEncode_9a6ad sh g x1 = some o) : gb_Fr (fun _ _ => False) g o.1 := by
  unfold f_J1_canEncode_9a6ad at h
  have Fg : gb_Fr (fun _ _ => False) g g := gb_Fr.rf
  rcases gb_ite_e h with h | h
  · cases h
    exact Fg
  · rcases gb_ite_e h with h | h
    · cases h
      exact Fg
    · cases h
      exact Fg
set_option maxRecDepth 100000 in
set_option maxHeartbeats 4000000 in
theorem w_J1_indexOfChar_4cfef_7 {sh : List gb_Sh} {s1 : Nat}  : ∀ (n : Nat) {g : gb_G} {y3 : Int32} {y4 : Int32} {y5 : Int32} {o : (gb_G × Int32)} (h : f_J1_indexOfChar_4cfef_7 sh s1 n g y3 y4 y5 = some o), gb_Fr (fun _ _ => False) g o.1 := by
  intro n
  induction n with
  | zero => intro g y3 y4 y5 o h; cases h
  | succ n ih =>
    intro g y3 y4 y5 o h
    rw [f_J1_indexOfChar_4cfef_7] at h
    have Fg : gb_Fr (fun _ _ => False) g g := gb_Fr.rf
    rcases gb_ite_e h with h | h
    · cases h
      exact Fg
    · obtain ⟨-, h⟩ := gb_ck_e h
      rcases gb_ite_e h with h | h
      · cases h
        exact Fg
      · exact gb_Fr.tr Fg (ih h)
set_option maxRecDepth 100000 in
set_option maxHeartbeats 4000000 in
theorem w_J1_indexOfChar_4cfef {sh : List gb_Sh} {s1 : Nat} {x2 : Int32} {x3 : Int32} {x4 : Int32} {g : gb_G}  {o : (gb_G × Int32)} (h : f_J1_indexOfChar_4cfef sh g s1 x2 x3 x4 = some o) : gb_Fr (fun _ _ => False) g o.1 := by
  unfold f_J1_indexOfChar_4cfef at h
  have Fg : gb_Fr (fun _ _ => False) g g := gb_Fr.rf
  exact gb_Fr.tr Fg (w_J1_indexOfChar_4cfef_7 _ h)
set_option maxRecDepth 100000 in
set_option maxHeartbeats 4000000 in
theorem w_J1_indexOf_4cfef {sh : List gb_Sh} {s1 : Nat} {x2 : Int32} {x3 : Int32} {x4 : Int32} {g : gb_G}  {o : (gb_G × Int32)} (h : f_J1_indexOf_4cfef sh g s1 x2 x3 x4 = some o) : gb_Fr (fun _ _ => False) g o.1 := by
  unfold f_J1_indexOf_4cfef at h
  have Fg : gb_Fr (fun _ _ => False) g g := gb_Fr.rf
  obtain ⟨r1, er1, h⟩ := gb_bd_e h
  have Fr1 := gb_Fr.tr Fg (gb_Fr.up (w_J1_canEncode_9a6ad er1) (fun _ _ hw => hw.elim))
  rcases gb_ite_e h with h | h
  · cases h
    exact Fr1
  · obtain ⟨r3, er3, h⟩ := gb_bd_e h
    have Fr3 := gb_Fr.tr Fr1 (gb_Fr.up (w_J9_max_7cf53 er3) (fun _ _ hw => hw.elim))
    obtain ⟨r5, er5, h⟩ := gb_bd_e h
    have Fr5 := gb_Fr.tr Fr3 (gb_Fr.up (w_J9_min_7cf53 er5) (fun _ _ hw => hw.elim))
    rcases gb_ite_e h with h | h
    · obtain ⟨r7, er7, h⟩ := gb_bd_e h
      have Fr7 := gb_Fr.tr Fr5 (gb_Fr.up (w_J1_indexOfChar_4cfef er7) (fun _ _ hw => hw.elim))
      cases h
      exact Fr7
    · cases h
      exact Fr5
set_option maxRecDepth 100000 in
set_option maxHeartbeats 4000000 in
theorem w_J3_checkFromToIndex_8c36e {sh : List gb_Sh} {x1 : Int32} {x2 : Int32} {x3 : Int32} {g : gb_G}  {o : (gb_G × Int32)} (h : f_J3_checkFromToIndex_8c36e sh g x1 x2 x3 = some o) : gb_Fr (fun _ _ => False) g o.1 := by
  unfold f_J3_checkFromToIndex_8c36e at h
  have Fg : gb_Fr (fun _ _ => False) g g := gb_Fr.rf
  rcases gb_ite_e h with h | h
  · cases h
  · rcases gb_ite_e h with h | h
    · cases h
    · rcases gb_ite_e h with h | h
      · cases h
        exact Fg
      · cases h
set_option maxRecDepth 100000 in
set_option maxHeartbeats 4000000 in
theorem w_J0_checkBoundsBeginEnd_23922 {sh : List gb_Sh} {x1 : Int32} {x2 : Int32} {x3 : Int32} {g : gb_G}  {o : (gb_G)} (h : f_J0_checkBoundsBeginEnd_23922 sh g x1 x2 x3 = some o) : gb_Fr (fun _ _ => False) g o := by
  unfold f_J0_checkBoundsBeginEnd_23922 at h
  have Fg : gb_Fr (fun _ _ => False) g g := gb_Fr.rf
  obtain ⟨r2, er2, h⟩ := gb_bd_e h
  have Fr2 := gb_Fr.tr Fg (gb_Fr.up (w_J3_checkFromToIndex_8c36e er2) (fun _ _ hw => hw.elim))
  cases h
  exact Fr2
set_option maxRecDepth 100000 in
set_option maxHeartbeats 4000000 in
theorem w_J0_indexOf_7cf53 {sh : List gb_Sh} {s0 : Nat} {x1 : Int32} {x2 : Int32} {g : gb_G}  {o : (gb_G × Int32)} (h : f_J0_indexOf_7cf53 sh g s0 x1 x2 = some o) : gb_Fr (fun _ _ => False) g o.1 := by
  unfold f_J0_indexOf_7cf53 at h
  have Fg : gb_Fr (fun _ _ => False) g g := gb_Fr.rf
  obtain ⟨r1, er1, h⟩ := gb_bd_e h
  have Fr1 := gb_Fr.tr Fg (gb_Fr.up (w_J0_isLatin1_aae02 er1) (fun _ _ hw => hw.elim))
  rcases gb_ite_e h with h | h
  · cases h
  · obtain ⟨r5, er5, h⟩ := gb_bd_e h
    have Fr5 := gb_Fr.tr Fr1 (gb_Fr.up (w_J0_length_8abf5 er5) (fun _ _ hw => hw.elim))
    obtain ⟨r7, er7, h⟩ := gb_bd_e h
    have Fr7 := gb_Fr.tr Fr5 (gb_Fr.up (w_J1_indexOf_4cfef er7) (fun _ _ hw => hw.elim))
    cases h
    exact Fr7
set_option maxRecDepth 100000 in
set_option maxHeartbeats 4000000 in
theorem w_J0_indexOf_0f7a4 {sh : List gb_Sh} {s0 : Nat} {x1 : Int32} {g : gb_G}  {o : (gb_G × Int32)} (h : f_J0_indexOf_0f7a4 sh g s0 x1 = some o) : gb_Fr (fun _ _ => False) g o.1 := by
  unfold f_J0_indexOf_0f7a4 at h
  have Fg : gb_Fr (fun _ _ => False) g g := gb_Fr.rf
  obtain ⟨r1, er1, h⟩ := gb_bd_e h
  have Fr1 := gb_Fr.tr Fg (gb_Fr.up (w_J0_indexOf_7cf53 er1) (fun _ _ hw => hw.elim))
  cases h
  exact Fr1
set_option maxRecDepth 100000 in
set_option maxHeartbeats 4000000 in
theorem w_X9_ended {sh : List gb_Sh} {g : gb_G}  {o : (gb_G × Int32)} (h : f_X9_ended sh g = some o) : gb_Fr (fun _ _ => False) g o.1 := by
  unfold f_X9_ended at h
  have Fg : gb_Fr (fun _ _ => False) g g := gb_Fr.rf
  rcases gb_ite_e h with h | h
  · cases h
    exact Fg
  · cases h
    exact Fg
set_option maxRecDepth 100000 in
set_option maxHeartbeats 4000000 in
theorem w_X9_signIn {sh : List gb_Sh} {s1 : Nat} {g : gb_G}  {o : (gb_G × Int32)} (h : f_X9_signIn sh g s1 = some o) : gb_Fr (fun _ _ => False) g o.1 := by
  unfold f_X9_signIn at h
  have Fg : gb_Fr (fun _ _ => False) g g := gb_Fr.rf
  obtain ⟨r1, er1, h⟩ := gb_bd_e h
  have Fr1 := gb_Fr.tr Fg (gb_Fr.up (w_X9_ended er1) (fun _ _ hw => hw.elim))
  rcases gb_ite_e h with h | h
  · obtain ⟨r3, er3, h⟩ := gb_bd_e h
    have Fr3 := gb_Fr.tr Fr1 (gb_Fr.up (w_X9_byteAt er3) (fun _ _ hw => hw.elim))
    obtain ⟨r5, er5, h⟩ := gb_bd_e h
    have Fr5 := gb_Fr.tr Fr3 (gb_Fr.up (w_J0_indexOf_0f7a4 er5) (fun _ _ hw => hw.elim))
    cases h
    exact Fr5
  · cases h
    exact Fr1
set_option maxRecDepth 100000 in
set_option maxHeartbeats 4000000 in
theorem w_X8_readTerm_19 {sh : List gb_Sh} {R_X8_readPart : gb_G → Int32 → Option (gb_G × Int32)} (hR_X8_readPart : ∀ {a0 : gb_G} {a1 : Int32} {o : (gb_G × Int32)}, R_X8_readPart a0 a1 = some o → gb_Fr (fun c k => (c = 43 ∧ k = 2) ∨ (c = 43 ∧ k = 3) ∨ (c = 43 ∧ k = 4) ∨ (c = 45 ∧ k = 3) ∨ c = 46 ∨ c = 47 ∨ c = 48 ∨ c = 50) a0 o.1) : ∀ (n : Nat) {g : gb_G} {y1 : Int32} {y2 : Int32} {y3 : Int32} {y4 : Int32} {o : (gb_G × Int32)} (h : f_X8_readTerm_19 sh R_X8_readPart n g y1 y2 y3 y4 = some o), gb_Fr (fun c k => (c = 43 ∧ k = 2) ∨ (c = 43 ∧ k = 3) ∨ (c = 43 ∧ k = 4) ∨ (c = 45 ∧ k = 3) ∨ c = 46 ∨ c = 47 ∨ c = 48 ∨ c = 50) g o.1 := by
  intro n
  induction n with
  | zero => intro g y1 y2 y3 y4 o h; cases h
  | succ n ih =>
    intro g y1 y2 y3 y4 o h
    rw [f_X8_readTerm_19] at h
    have Fg : gb_Fr (fun c k => (c = 43 ∧ k = 2) ∨ (c = 43 ∧ k = 3) ∨ (c = 43 ∧ k = 4) ∨ (c = 45 ∧ k = 3) ∨ c = 46 ∨ c = 47 ∨ c = 48 ∨ c = 50) g g := gb_Fr.rf
    rcases gb_ite_e h with h | h
    · obtain ⟨-, h⟩ := gb_bo_e h
      cases h
      exact Fg
    · rcases gb_ite_e h with h | h
      · obtain ⟨-, h⟩ := gb_bo_e h
        cases h
        exact Fg
      · rcases gb_ite_e h with h | h
        · obtain ⟨-, h⟩ := gb_bo_e h
          cases h
          exact Fg
        · obtain ⟨r8, er8, h⟩ := gb_bd_e h
          have Fr8 := gb_Fr.tr Fg (gb_Fr.up (w_X9_step er8) (fun _ _ hw => hw.elim (fun h0 => Or.inl (h0)) (fun h0 => h0.elim (fun h1 => Or.inr (Or.inl (h1))) (fun h1 => Or.inr (Or.inr (Or.inl (h1)))))))
          obtain ⟨r10, er10, h⟩ := gb_bd_e h
          have Fr10 := gb_Fr.tr Fr8 (hR_X8_readPart er10)
          obtain ⟨r12, er12, h⟩ := gb_bd_e h
          have Fr12 := gb_Fr.tr Fr10 (gb_Fr.up (w_X7_emit er12) (fun _ _ hw => hw.elim (fun h0 => Or.inr (Or.inr (Or.inr (Or.inr (Or.inl (h0.1)))))) (fun h0 => h0.elim (fun h1 => Or.inr (Or.inr (Or.inr (Or.inr (Or.inr (Or.inl (h1))))))) (fun h1 => Or.inr (Or.inr (Or.inr (Or.inr (Or.inr (Or.inr (Or.inl (h1)))))))))))
          obtain ⟨r14, er14, h⟩ := gb_bd_e h
          have Fr14 := gb_Fr.tr Fr12 (gb_Fr.up (w_X9_signIn er14) (fun _ _ hw => hw.elim))
          exact gb_Fr.tr Fr14 (ih h)
set_option maxRecDepth 100000 in
set_option maxHeartbeats 4000000 in
theorem w_X8_readTerm {sh : List gb_Sh} {R_X8_readPart : gb_G → Int32 → Option (gb_G × Int32)} {x1 : Int32} {g : gb_G} (hR_X8_readPart : ∀ {a0 : gb_G} {a1 : Int32} {o : (gb_G × Int32)}, R_X8_readPart a0 a1 = some o → gb_Fr (fun c k => (c = 43 ∧ k = 2) ∨ (c = 43 ∧ k = 3) ∨ (c = 43 ∧ k = 4) ∨ (c = 45 ∧ k = 3) ∨ c = 46 ∨ c = 47 ∨ c = 48 ∨ c = 50) a0 o.1) {o : (gb_G × Int32)} (h : f_X8_readTerm sh R_X8_readPart g x1 = some o) : gb_Fr (fun c k => (c = 43 ∧ k = 2) ∨ (c = 43 ∧ k = 3) ∨ (c = 43 ∧ k = 4) ∨ (c = 45 ∧ k = 3) ∨ c = 46 ∨ c = 47 ∨ c = 48 ∨ c = 50) g o.1 := by
  unfold f_X8_readTerm at h
  have Fg : gb_Fr (fun c k => (c = 43 ∧ k = 2) ∨ (c = 43 ∧ k = 3) ∨ (c = 43 ∧ k = 4) ∨ (c = 45 ∧ k = 3) ∨ c = 46 ∨ c = 47 ∨ c = 48 ∨ c = 50) g g := gb_Fr.rf
  obtain ⟨r1, er1, h⟩ := gb_bd_e h
  have Fr1 := gb_Fr.tr Fg (hR_X8_readPart er1)
  obtain ⟨r3, er3, h⟩ := gb_bd_e h
  have Fr3 := gb_Fr.tr Fr1 (gb_Fr.up (w_X9_signIn er3) (fun _ _ hw => hw.elim))
  exact gb_Fr.tr Fr3 (w_X8_readTerm_19 (hR_X8_readPart) _ h)
set_option maxRecDepth 100000 in
set_option maxHeartbeats 4000000 in
theorem w_X8_readSum_19 {sh : List gb_Sh} {R_X8_readTerm : gb_G → Int32 → Option (gb_G × Int32)} (hR_X8_readTerm : ∀ {a0 : gb_G} {a1 : Int32} {o : (gb_G × Int32)}, R_X8_readTerm a0 a1 = some o → gb_Fr (fun c k => (c = 43 ∧ k = 2) ∨ (c = 43 ∧ k = 3) ∨ (c = 43 ∧ k = 4) ∨ (c = 45 ∧ k = 3) ∨ c = 46 ∨ c = 47 ∨ c = 48 ∨ c = 50) a0 o.1) : ∀ (n : Nat) {g : gb_G} {y1 : Int32} {y2 : Int32} {y3 : Int32} {y4 : Int32} {o : (gb_G × Int32)} (h : f_X8_readSum_19 sh R_X8_readTerm n g y1 y2 y3 y4 = some o), gb_Fr (fun c k => (c = 43 ∧ k = 2) ∨ (c = 43 ∧ k = 3) ∨ (c = 43 ∧ k = 4) ∨ (c = 45 ∧ k = 3) ∨ c = 46 ∨ c = 47 ∨ c = 48 ∨ c = 50) g o.1 := by
  intro n
  induction n with
  | zero => intro g y1 y2 y3 y4 o h; cases h
  | succ n ih =>
    intro g y1 y2 y3 y4 o h
    rw [f_X8_readSum_19] at h
    have Fg : gb_Fr (fun c k => (c = 43 ∧ k = 2) ∨ (c = 43 ∧ k = 3) ∨ (c = 43 ∧ k = 4) ∨ (c = 45 ∧ k = 3) ∨ c = 46 ∨ c = 47 ∨ c = 48 ∨ c = 50) g g := gb_Fr.rf
    rcases gb_ite_e h with h | h
    · obtain ⟨-, h⟩ := gb_bo_e h
      cases h
      exact Fg
    · rcases gb_ite_e h with h | h
      · obtain ⟨-, h⟩ := gb_bo_e h
        cases h
        exact Fg
      · rcases gb_ite_e h with h | h
        · obtain ⟨-, h⟩ := gb_bo_e h
          cases h
          exact Fg
        · obtain ⟨r8, er8, h⟩ := gb_bd_e h
          have Fr8 := gb_Fr.tr Fg (gb_Fr.up (w_X9_step er8) (fun _ _ hw => hw.elim (fun h0 => Or.inl (h0)) (fun h0 => h0.elim (fun h1 => Or.inr (Or.inl (h1))) (fun h1 => Or.inr (Or.inr (Or.inl (h1)))))))
          obtain ⟨r10, er10, h⟩ := gb_bd_e h
          have Fr10 := gb_Fr.tr Fr8 (hR_X8_readTerm er10)
          obtain ⟨r12, er12, h⟩ := gb_bd_e h
          have Fr12 := gb_Fr.tr Fr10 (gb_Fr.up (w_X7_emit er12) (fun _ _ hw => hw.elim (fun h0 => Or.inr (Or.inr (Or.inr (Or.inr (Or.inl (h0.1)))))) (fun h0 => h0.elim (fun h1 => Or.inr (Or.inr (Or.inr (Or.inr (Or.inr (Or.inl (h1))))))) (fun h1 => Or.inr (Or.inr (Or.inr (Or.inr (Or.inr (Or.inr (Or.inl (h1)))))))))))
          obtain ⟨r14, er14, h⟩ := gb_bd_e h
          have Fr14 := gb_Fr.tr Fr12 (gb_Fr.up (w_X9_signIn er14) (fun _ _ hw => hw.elim))
          exact gb_Fr.tr Fr14 (ih h)
set_option maxRecDepth 100000 in
set_option maxHeartbeats 4000000 in
theorem w_X8_readSum {sh : List gb_Sh} {R_X8_readTerm : gb_G → Int32 → Option (gb_G × Int32)} {x1 : Int32} {g : gb_G} (hR_X8_readTerm : ∀ {a0 : gb_G} {a1 : Int32} {o : (gb_G × Int32)}, R_X8_readTerm a0 a1 = some o → gb_Fr (fun c k => (c = 43 ∧ k = 2) ∨ (c = 43 ∧ k = 3) ∨ (c = 43 ∧ k = 4) ∨ (c = 45 ∧ k = 3) ∨ c = 46 ∨ c = 47 ∨ c = 48 ∨ c = 50) a0 o.1) {o : (gb_G × Int32)} (h : f_X8_readSum sh R_X8_readTerm g x1 = some o) : gb_Fr (fun c k => (c = 43 ∧ k = 2) ∨ (c = 43 ∧ k = 3) ∨ (c = 43 ∧ k = 4) ∨ (c = 45 ∧ k = 3) ∨ c = 46 ∨ c = 47 ∨ c = 48 ∨ c = 50) g o.1 := by
  unfold f_X8_readSum at h
  have Fg : gb_Fr (fun c k => (c = 43 ∧ k = 2) ∨ (c = 43 ∧ k = 3) ∨ (c = 43 ∧ k = 4) ∨ (c = 45 ∧ k = 3) ∨ c = 46 ∨ c = 47 ∨ c = 48 ∨ c = 50) g g := gb_Fr.rf
  obtain ⟨r1, er1, h⟩ := gb_bd_e h
  have Fr1 := gb_Fr.tr Fg (hR_X8_readTerm er1)
  obtain ⟨r3, er3, h⟩ := gb_bd_e h
  have Fr3 := gb_Fr.tr Fr1 (gb_Fr.up (w_X9_signIn er3) (fun _ _ hw => hw.elim))
  exact gb_Fr.tr Fr3 (w_X8_readSum_19 (hR_X8_readTerm) _ h)
set_option maxRecDepth 100000 in
set_option maxHeartbeats 4000000 in
theorem w_X8_readPlain_123 {sh : List gb_Sh} {R_X8_readSum : gb_G → Int32 → Option (gb_G × Int32)} {R_X8_readTest : gb_G → Int32 → Option (gb_G × Int32)} {K155 : gb_G → Int32 → Int32 → Option (gb_G × Int32)} {y1 : Int32} {y2 : Int32} {y4 : Int32} {z0 : Int32} {g : gb_G} (hR_X8_readSum : ∀ {a0 : gb_G} {a1 : Int32} {o : (gb_G × Int32)}, R_X8_readSum a0 a1 = some o → gb_Fr (fun c k => (c = 43 ∧ k = 2) ∨ (c = 43 ∧ k = 3) ∨ (c = 43 ∧ k = 4) ∨ (c = 45 ∧ k = 3) ∨ c = 46 ∨ c = 47 ∨ c = 48 ∨ c = 50) a0 o.1) (hR_X8_readTest : ∀ {a0 : gb_G} {a1 : Int32} {o : (gb_G × Int32)}, R_X8_readTest a0 a1 = some o → gb_Fr (fun c k => (c = 43 ∧ k = 2) ∨ (c = 43 ∧ k = 3) ∨ (c = 43 ∧ k = 4) ∨ (c = 45 ∧ k = 3) ∨ c = 46 ∨ c = 47 ∨ c = 48 ∨ c = 50) a0 o.1) (hK155 : ∀ {a0 : gb_G} {a1 : Int32} {a2 : Int32} {o : (gb_G × Int32)}, K155 a0 a1 a2 = some o → gb_Fr (fun c k => (c = 43 ∧ k = 2) ∨ (c = 43 ∧ k = 3) ∨ (c = 43 ∧ k = 4) ∨ (c = 45 ∧ k = 3) ∨ c = 46 ∨ c = 47 ∨ c = 48 ∨ c = 50) a0 o.1) {o : (gb_G × Int32)} (h : f_X8_readPlain_123 sh R_X8_readSum R_X8_readTest K155 g y1 y2 y4 z0 = some o) : gb_Fr (fun c k => (c = 43 ∧ k = 2) ∨ (c = 43 ∧ k = 3) ∨ (c = 43 ∧ k = 4) ∨ (c = 45 ∧ k = 3) ∨ c = 46 ∨ c = 47 ∨ c = 48 ∨ c = 50) g o.1 := by
  unfold f_X8_readPlain_123 at h
  have Fg : gb_Fr (fun c k => (c = 43 ∧ k = 2) ∨ (c = 43 ∧ k = 3) ∨ (c = 43 ∧ k = 4) ∨ (c = 45 ∧ k = 3) ∨ c = 46 ∨ c = 47 ∨ c = 48 ∨ c = 50) g g := gb_Fr.rf
  rcases gb_ite_e h with h | h
  · exact gb_Fr.tr Fg (hK155 h)
  · obtain ⟨r7, er7, h⟩ := gb_bd_e h
    have Fr7 := gb_Fr.tr Fg (gb_Fr.up (w_X9_step er7) (fun _ _ hw => hw.elim (fun h0 => Or.inl (h0)) (fun h0 => h0.elim (fun h1 => Or.inr (Or.inl (h1))) (fun h1 => Or.inr (Or.inr (Or.inl (h1)))))))
    obtain ⟨r9, er9, h⟩ := gb_bd_e h
    have Fr9 := gb_Fr.tr Fr7 (hR_X8_readSum er9)
    obtain ⟨r11, er11, h⟩ := gb_bd_e h
    have Fr11 := gb_Fr.tr Fr9 (gb_Fr.up (w_X7_emit er11) (fun _ _ hw => hw.elim (fun h0 => Or.inr (Or.inr (Or.inr (Or.inr (Or.inl (h0.1)))))) (fun h0 => h0.elim (fun h1 => Or.inr (Or.inr (Or.inr (Or.inr (Or.inr (Or.inl (h1))))))) (fun h1 => Or.inr (Or.inr (Or.inr (Or.inr (Or.inr (Or.inr (Or.inl (h1)))))))))))
    exact gb_Fr.tr Fr11 (hK155 h)
set_option maxRecDepth 100000 in
set_option maxHeartbeats 4000000 in
theorem w_X8_readPlain_155 {sh : List gb_Sh} {R_X8_readSum : gb_G → Int32 → Option (gb_G × Int32)} {R_X8_readTest : gb_G → Int32 → Option (gb_G × Int32)} {y2 : Int32} {y3 : Int32} {g : gb_G} (hR_X8_readSum : ∀ {a0 : gb_G} {a1 : Int32} {o : (gb_G × Int32)}, R_X8_readSum a0 a1 = some o → gb_Fr (fun c k => (c = 43 ∧ k = 2) ∨ (c = 43 ∧ k = 3) ∨ (c = 43 ∧ k = 4) ∨ (c = 45 ∧ k = 3) ∨ c = 46 ∨ c = 47 ∨ c = 48 ∨ c = 50) a0 o.1) (hR_X8_readTest : ∀ {a0 : gb_G} {a1 : Int32} {o : (gb_G × Int32)}, R_X8_readTest a0 a1 = some o → gb_Fr (fun c k => (c = 43 ∧ k = 2) ∨ (c = 43 ∧ k = 3) ∨ (c = 43 ∧ k = 4) ∨ (c = 45 ∧ k = 3) ∨ c = 46 ∨ c = 47 ∨ c = 48 ∨ c = 50) a0 o.1) {o : (gb_G × Int32)} (h : f_X8_readPlain_155 sh R_X8_readSum R_X8_readTest g y2 y3 = some o) : gb_Fr (fun c k => (c = 43 ∧ k = 2) ∨ (c = 43 ∧ k = 3) ∨ (c = 43 ∧ k = 4) ∨ (c = 45 ∧ k = 3) ∨ c = 46 ∨ c = 47 ∨ c = 48 ∨ c = 50) g o.1 := by
  unfold f_X8_readPlain_155 at h
  have Fg : gb_Fr (fun c k => (c = 43 ∧ k = 2) ∨ (c = 43 ∧ k = 3) ∨ (c = 43 ∧ k = 4) ∨ (c = 45 ∧ k = 3) ∨ c = 46 ∨ c = 47 ∨ c = 48 ∨ c = 50) g g := gb_Fr.rf
  rcases gb_ite_e h with h | h
  · obtain ⟨-, h⟩ := gb_bo_e h
    cases h
    exact Fg
  · obtain ⟨r14, er14, h⟩ := gb_bd_e h
    have Fr14 := gb_Fr.tr Fg (gb_Fr.up (w_X7_emit er14) (fun _ _ hw => hw.elim (fun h0 => Or.inr (Or.inr (Or.inr (Or.inr (Or.inl (h0.1)))))) (fun h0 => h0.elim (fun h1 => Or.inr (Or.inr (Or.inr (Or.inr (Or.inr (Or.inl (h1))))))) (fun h1 => Or.inr (Or.inr (Or.inr (Or.inr (Or.inr (Or.inr (Or.inl (h1)))))))))))
    obtain ⟨-, h⟩ := gb_bo_e h
    cases h
    exact Fr14
set_option maxRecDepth 100000 in
set_option maxHeartbeats 4000000 in
theorem w_X8_readPlain_87 {sh : List gb_Sh} {R_X8_readSum : gb_G → Int32 → Option (gb_G × Int32)} {R_X8_readTest : gb_G → Int32 → Option (gb_G × Int32)} {K155 : gb_G → Int32 → Int32 → Option (gb_G × Int32)} {y2 : Int32} {z0 : Int32} {g : gb_G} (hR_X8_readSum : ∀ {a0 : gb_G} {a1 : Int32} {o : (gb_G × Int32)}, R_X8_readSum a0 a1 = some o → gb_Fr (fun c k => (c = 43 ∧ k = 2) ∨ (c = 43 ∧ k = 3) ∨ (c = 43 ∧ k = 4) ∨ (c = 45 ∧ k = 3) ∨ c = 46 ∨ c = 47 ∨ c = 48 ∨ c = 50) a0 o.1) (hR_X8_readTest : ∀ {a0 : gb_G} {a1 : Int32} {o : (gb_G × Int32)}, R_X8_readTest a0 a1 = some o → gb_Fr (fun c k => (c = 43 ∧ k = 2) ∨ (c = 43 ∧ k = 3) ∨ (c = 43 ∧ k = 4) ∨ (c = 45 ∧ k = 3) ∨ c = 46 ∨ c = 47 ∨ c = 48 ∨ c = 50) a0 o.1) (hK155 : ∀ {a0 : gb_G} {a1 : Int32} {a2 : Int32} {o : (gb_G × Int32)}, K155 a0 a1 a2 = some o → gb_Fr (fun c k => (c = 43 ∧ k = 2) ∨ (c = 43 ∧ k = 3) ∨ (c = 43 ∧ k = 4) ∨ (c = 45 ∧ k = 3) ∨ c = 46 ∨ c = 47 ∨ c = 48 ∨ c = 50) a0 o.1) {o : (gb_G × Int32)} (h : f_X8_readPlain_87 sh R_X8_readSum R_X8_readTest K155 g y2 z0 = some o) : gb_Fr (fun c k => (c = 43 ∧ k = 2) ∨ (c = 43 ∧ k = 3) ∨ (c = 43 ∧ k = 4) ∨ (c = 45 ∧ k = 3) ∨ c = 46 ∨ c = 47 ∨ c = 48 ∨ c = 50) g o.1 := by
  unfold f_X8_readPlain_87 at h
  have Fg : gb_Fr (fun c k => (c = 43 ∧ k = 2) ∨ (c = 43 ∧ k = 3) ∨ (c = 43 ∧ k = 4) ∨ (c = 45 ∧ k = 3) ∨ c = 46 ∨ c = 47 ∨ c = 48 ∨ c = 50) g g := gb_Fr.rf
  exact gb_Fr.tr Fg (hK155 h)
set_option maxRecDepth 100000 in
set_option maxHeartbeats 4000000 in
theorem w_X8_readPlain_36 {sh : List gb_Sh} {R_X8_readSum : gb_G → Int32 → Option (gb_G × Int32)} {R_X8_readTest : gb_G → Int32 → Option (gb_G × Int32)} {y1 : Int32} {y2 : Int32} {g : gb_G} (hR_X8_readSum : ∀ {a0 : gb_G} {a1 : Int32} {o : (gb_G × Int32)}, R_X8_readSum a0 a1 = some o → gb_Fr (fun c k => (c = 43 ∧ k = 2) ∨ (c = 43 ∧ k = 3) ∨ (c = 43 ∧ k = 4) ∨ (c = 45 ∧ k = 3) ∨ c = 46 ∨ c = 47 ∨ c = 48 ∨ c = 50) a0 o.1) (hR_X8_readTest : ∀ {a0 : gb_G} {a1 : Int32} {o : (gb_G × Int32)}, R_X8_readTest a0 a1 = some o → gb_Fr (fun c k => (c = 43 ∧ k = 2) ∨ (c = 43 ∧ k = 3) ∨ (c = 43 ∧ k = 4) ∨ (c = 45 ∧ k = 3) ∨ c = 46 ∨ c = 47 ∨ c = 48 ∨ c = 50) a0 o.1) {o : (gb_G × Int32)} (h : f_X8_readPlain_36 sh R_X8_readSum R_X8_readTest g y1 y2 = some o) : gb_Fr (fun c k => (c = 43 ∧ k = 2) ∨ (c = 43 ∧ k = 3) ∨ (c = 43 ∧ k = 4) ∨ (c = 45 ∧ k = 3) ∨ c = 46 ∨ c = 47 ∨ c = 48 ∨ c = 50) g o.1 := by
  unfold f_X8_readPlain_36 at h
  have Fg : gb_Fr (fun c k => (c = 43 ∧ k = 2) ∨ (c = 43 ∧ k = 3) ∨ (c = 43 ∧ k = 4) ∨ (c = 45 ∧ k = 3) ∨ c = 46 ∨ c = 47 ∨ c = 48 ∨ c = 50) g g := gb_Fr.rf
  obtain ⟨r1, er1, h⟩ := gb_bd_e h
  have Fr1 := gb_Fr.tr Fg (gb_Fr.up (w_X9_isSign er1) (fun _ _ hw => hw.elim))
  rcases gb_ite_e h with h | h
  · obtain ⟨r3, er3, h⟩ := gb_bd_e h
    have Fr3 := gb_Fr.tr Fr1 (hR_X8_readSum er3)
    obtain ⟨r5, er5, h⟩ := gb_bd_e h
    have Fr5 := gb_Fr.tr Fr3 (gb_Fr.up (w_X9_signIn er5) (fun _ _ hw => hw.elim))
    rcases gb_ite_e h with h | h
    · exact gb_Fr.tr Fr5 (w_X8_readPlain_123 (hR_X8_readSum) (hR_X8_readTest) (fun hh => w_X8_readPlain_155 (hR_X8_readSum) (hR_X8_readTest) hh) h)
    · rcases gb_ite_e h with h | h
      · exact gb_Fr.tr Fr5 (w_X8_readPlain_123 (hR_X8_readSum) (hR_X8_readTest) (fun hh => w_X8_readPlain_155 (hR_X8_readSum) (hR_X8_readTest) hh) h)
      · exact gb_Fr.tr Fr5 (w_X8_readPlain_123 (hR_X8_readSum) (hR_X8_readTest) (fun hh => w_X8_readPlain_155 (hR_X8_readSum) (hR_X8_readTest) hh) h)
  · rcases gb_ite_e h with h | h
    · exact gb_Fr.tr Fr1 (w_X8_readPlain_87 (hR_X8_readSum) (hR_X8_readTest) (fun hh => w_X8_readPlain_155 (hR_X8_readSum) (hR_X8_readTest) hh) h)
    · obtain ⟨r17, er17, h⟩ := gb_bd_e h
      have Fr17 := gb_Fr.tr Fr1 (gb_Fr.up (w_X8_readSign er17) (fun _ _ hw => hw.elim (fun h0 => Or.inl (h0)) (fun h0 => h0.elim (fun h1 => Or.inr (Or.inl (h1))) (fun h1 => Or.inr (Or.inr (Or.inl (h1)))))))
      rcases gb_ite_e h with h | h
      · exact gb_Fr.tr Fr17 (w_X8_readPlain_87 (hR_X8_readSum) (hR_X8_readTest) (fun hh => w_X8_readPlain_155 (hR_X8_readSum) (hR_X8_readTest) hh) h)
      · obtain ⟨r19, er19, h⟩ := gb_bd_e h
        have Fr19 := gb_Fr.tr Fr17 (hR_X8_readTest er19)
        rcases gb_ite_e h with h | h
        · exact gb_Fr.tr Fr19 (w_X8_readPlain_87 (hR_X8_readSum) (hR_X8_readTest) (fun hh => w_X8_readPlain_155 (hR_X8_readSum) (hR_X8_readTest) hh) h)
        · obtain ⟨r21, er21, h⟩ := gb_bd_e h
          have Fr21 := gb_Fr.tr Fr19 (gb_Fr.up (w_X8_readSign er21) (fun _ _ hw => hw.elim (fun h0 => Or.inl (h0)) (fun h0 => h0.elim (fun h1 => Or.inr (Or.inl (h1))) (fun h1 => Or.inr (Or.inr (Or.inl (h1)))))))
          rcases gb_ite_e h with h | h
          · exact gb_Fr.tr Fr21 (w_X8_readPlain_87 (hR_X8_readSum) (hR_X8_readTest) (fun hh => w_X8_readPlain_155 (hR_X8_readSum) (hR_X8_readTest) hh) h)
          · exact gb_Fr.tr Fr21 (w_X8_readPlain_87 (hR_X8_readSum) (hR_X8_readTest) (fun hh => w_X8_readPlain_155 (hR_X8_readSum) (hR_X8_readTest) hh) h)
set_option maxRecDepth 100000 in
set_option maxHeartbeats 4000000 in
theorem w_X8_readPlain_29 {sh : List gb_Sh} {R_X8_readSum : gb_G → Int32 → Option (gb_G × Int32)} {R_X8_readTest : gb_G → Int32 → Option (gb_G × Int32)} {K4 : gb_G → Int32 → Int32 → Int32 → Option (gb_G × Int32)} {y1 : Int32} {y3 : Int32} {z0 : Int32} {g : gb_G} (hR_X8_readSum : ∀ {a0 : gb_G} {a1 : Int32} {o : (gb_G × Int32)}, R_X8_readSum a0 a1 = some o → gb_Fr (fun c k => (c = 43 ∧ k = 2) ∨ (c = 43 ∧ k = 3) ∨ (c = 43 ∧ k = 4) ∨ (c = 45 ∧ k = 3) ∨ c = 46 ∨ c = 47 ∨ c = 48 ∨ c = 50) a0 o.1) (hR_X8_readTest : ∀ {a0 : gb_G} {a1 : Int32} {o : (gb_G × Int32)}, R_X8_readTest a0 a1 = some o → gb_Fr (fun c k => (c = 43 ∧ k = 2) ∨ (c = 43 ∧ k = 3) ∨ (c = 43 ∧ k = 4) ∨ (c = 45 ∧ k = 3) ∨ c = 46 ∨ c = 47 ∨ c = 48 ∨ c = 50) a0 o.1) (hK4 : ∀ {a0 : gb_G} {a1 : Int32} {a2 : Int32} {a3 : Int32} {o : (gb_G × Int32)}, K4 a0 a1 a2 a3 = some o → gb_Fr (fun c k => (c = 43 ∧ k = 2) ∨ (c = 43 ∧ k = 3) ∨ (c = 43 ∧ k = 4) ∨ (c = 45 ∧ k = 3) ∨ c = 46 ∨ c = 47 ∨ c = 48 ∨ c = 50) a0 o.1) {o : (gb_G × Int32)} (h : f_X8_readPlain_29 sh R_X8_readSum R_X8_readTest K4 g y1 y3 z0 = some o) : gb_Fr (fun c k => (c = 43 ∧ k = 2) ∨ (c = 43 ∧ k = 3) ∨ (c = 43 ∧ k = 4) ∨ (c = 45 ∧ k = 3) ∨ c = 46 ∨ c = 47 ∨ c = 48 ∨ c = 50) g o.1 := by
  unfold f_X8_readPlain_29 at h
  have Fg : gb_Fr (fun c k => (c = 43 ∧ k = 2) ∨ (c = 43 ∧ k = 3) ∨ (c = 43 ∧ k = 4) ∨ (c = 45 ∧ k = 3) ∨ c = 46 ∨ c = 47 ∨ c = 48 ∨ c = 50) g g := gb_Fr.rf
  exact gb_Fr.tr Fg (hK4 h)
set_option maxRecDepth 100000 in
set_option maxHeartbeats 4000000 in
theorem w_X8_readPlain_4 {sh : List gb_Sh} {R_X8_readSum : gb_G → Int32 → Option (gb_G × Int32)} {R_X8_readTest : gb_G → Int32 → Option (gb_G × Int32)} (hR_X8_readSum : ∀ {a0 : gb_G} {a1 : Int32} {o : (gb_G × Int32)}, R_X8_readSum a0 a1 = some o → gb_Fr (fun c k => (c = 43 ∧ k = 2) ∨ (c = 43 ∧ k = 3) ∨ (c = 43 ∧ k = 4) ∨ (c = 45 ∧ k = 3) ∨ c = 46 ∨ c = 47 ∨ c = 48 ∨ c = 50) a0 o.1) (hR_X8_readTest : ∀ {a0 : gb_G} {a1 : Int32} {o : (gb_G × Int32)}, R_X8_readTest a0 a1 = some o → gb_Fr (fun c k => (c = 43 ∧ k = 2) ∨ (c = 43 ∧ k = 3) ∨ (c = 43 ∧ k = 4) ∨ (c = 45 ∧ k = 3) ∨ c = 46 ∨ c = 47 ∨ c = 48 ∨ c = 50) a0 o.1) : ∀ (n : Nat) {g : gb_G} {y1 : Int32} {y2 : Int32} {y3 : Int32} {o : (gb_G × Int32)} (h : f_X8_readPlain_4 sh R_X8_readSum R_X8_readTest n g y1 y2 y3 = some o), gb_Fr (fun c k => (c = 43 ∧ k = 2) ∨ (c = 43 ∧ k = 3) ∨ (c = 43 ∧ k = 4) ∨ (c = 45 ∧ k = 3) ∨ c = 46 ∨ c = 47 ∨ c = 48 ∨ c = 50) g o.1 := by
  intro n
  induction n with
  | zero => intro g y1 y2 y3 o h; cases h
  | succ n ih =>
    intro g y1 y2 y3 o h
    rw [f_X8_readPlain_4] at h
    have Fg : gb_Fr (fun c k => (c = 43 ∧ k = 2) ∨ (c = 43 ∧ k = 3) ∨ (c = 43 ∧ k = 4) ∨ (c = 45 ∧ k = 3) ∨ c = 46 ∨ c = 47 ∨ c = 48 ∨ c = 50) g g := gb_Fr.rf
    rcases gb_ite_e h with h | h
    · exact gb_Fr.tr Fg (w_X8_readPlain_36 (hR_X8_readSum) (hR_X8_readTest) h)
    · obtain ⟨r23, er23, h⟩ := gb_bd_e h
      have Fr23 := gb_Fr.tr Fg (gb_Fr.up (w_X8_readKeyword er23) (fun _ _ hw => hw.elim (fun h0 => Or.inl (h0)) (fun h0 => h0.elim (fun h1 => Or.inr (Or.inl (h1))) (fun h1 => Or.inr (Or.inr (Or.inl (h1)))))))
      rcases gb_ite_e h with h | h
      · exact gb_Fr.tr Fr23 (w_X8_readPlain_36 (hR_X8_readSum) (hR_X8_readTest) h)
      · rcases gb_ite_e h with h | h
        · exact gb_Fr.tr Fr23 (w_X8_readPlain_29 (hR_X8_readSum) (hR_X8_readTest) (fun hh => ih hh) h)
        · exact gb_Fr.tr Fr23 (w_X8_readPlain_29 (hR_X8_readSum) (hR_X8_readTest) (fun hh => ih hh) h)
set_option maxRecDepth 100000 in
set_option maxHeartbeats 4000000 in
theorem w_X8_readPlain {sh : List gb_Sh} {R_X8_readSum : gb_G → Int32 → Option (gb_G × Int32)} {R_X8_readTest : gb_G → Int32 → Option (gb_G × Int32)} {x1 : Int32} {g : gb_G} (hR_X8_readSum : ∀ {a0 : gb_G} {a1 : Int32} {o : (gb_G × Int32)}, R_X8_readSum a0 a1 = some o → gb_Fr (fun c k => (c = 43 ∧ k = 2) ∨ (c = 43 ∧ k = 3) ∨ (c = 43 ∧ k = 4) ∨ (c = 45 ∧ k = 3) ∨ c = 46 ∨ c = 47 ∨ c = 48 ∨ c = 50) a0 o.1) (hR_X8_readTest : ∀ {a0 : gb_G} {a1 : Int32} {o : (gb_G × Int32)}, R_X8_readTest a0 a1 = some o → gb_Fr (fun c k => (c = 43 ∧ k = 2) ∨ (c = 43 ∧ k = 3) ∨ (c = 43 ∧ k = 4) ∨ (c = 45 ∧ k = 3) ∨ c = 46 ∨ c = 47 ∨ c = 48 ∨ c = 50) a0 o.1) {o : (gb_G × Int32)} (h : f_X8_readPlain sh R_X8_readSum R_X8_readTest g x1 = some o) : gb_Fr (fun c k => (c = 43 ∧ k = 2) ∨ (c = 43 ∧ k = 3) ∨ (c = 43 ∧ k = 4) ∨ (c = 45 ∧ k = 3) ∨ c = 46 ∨ c = 47 ∨ c = 48 ∨ c = 50) g o.1 := by
  unfold f_X8_readPlain at h
  have Fg : gb_Fr (fun c k => (c = 43 ∧ k = 2) ∨ (c = 43 ∧ k = 3) ∨ (c = 43 ∧ k = 4) ∨ (c = 45 ∧ k = 3) ∨ c = 46 ∨ c = 47 ∨ c = 48 ∨ c = 50) g g := gb_Fr.rf
  exact gb_Fr.tr Fg (w_X8_readPlain_4 (hR_X8_readSum) (hR_X8_readTest) _ h)
set_option maxRecDepth 100000 in
set_option maxHeartbeats 4000000 in
theorem w_X8_readBoth_8 {sh : List gb_Sh} {R_X8_readPlain : gb_G → Int32 → Option (gb_G × Int32)} (hR_X8_readPlain : ∀ {a0 : gb_G} {a1 : Int32} {o : (gb_G × Int32)}, R_X8_readPlain a0 a1 = some o → gb_Fr (fun c k => (c = 43 ∧ k = 2) ∨ (c = 43 ∧ k = 3) ∨ (c = 43 ∧ k = 4) ∨ (c = 45 ∧ k = 3) ∨ c = 46 ∨ c = 47 ∨ c = 48 ∨ c = 50) a0 o.1) : ∀ (n : Nat) {g : gb_G} {y1 : Int32} {y2 : Int32} {y3 : Int32} {o : (gb_G × Int32)} (h : f_X8_readBoth_8 sh R_X8_readPlain n g y1 y2 y3 = some o), gb_Fr (fun c k => (c = 43 ∧ k = 2) ∨ (c = 43 ∧ k = 3) ∨ (c = 43 ∧ k = 4) ∨ (c = 45 ∧ k = 3) ∨ c = 46 ∨ c = 47 ∨ c = 48 ∨ c = 50) g o.1 := by
  intro n
  induction n with
  | zero => intro g y1 y2 y3 o h; cases h
  | succ n ih =>
    intro g y1 y2 y3 o h
    rw [f_X8_readBoth_8] at h
    have Fg : gb_Fr (fun c k => (c = 43 ∧ k = 2) ∨ (c = 43 ∧ k = 3) ∨ (c = 43 ∧ k = 4) ∨ (c = 45 ∧ k = 3) ∨ c = 46 ∨ c = 47 ∨ c = 48 ∨ c = 50) g g := gb_Fr.rf
    rcases gb_ite_e h with h | h
    · obtain ⟨-, h⟩ := gb_bo_e h
      cases h
      exact Fg
    · rcases gb_ite_e h with h | h
      · obtain ⟨-, h⟩ := gb_bo_e h
        cases h
        exact Fg
      · obtain ⟨r5, er5, h⟩ := gb_bd_e h
        have Fr5 := gb_Fr.tr Fg (gb_Fr.up (w_X8_readKeyword er5) (fun _ _ hw => hw.elim (fun h0 => Or.inl (h0)) (fun h0 => h0.elim (fun h1 => Or.inr (Or.inl (h1))) (fun h1 => Or.inr (Or.inr (Or.inl (h1)))))))
        rcases gb_ite_e h with h | h
        · obtain ⟨-, h⟩ := gb_bo_e h
          cases h
          exact Fr5
        · obtain ⟨r8, er8, h⟩ := gb_bd_e h
          have Fr8 := gb_Fr.tr Fr5 (gb_Fr.up (w_X7_emit er8) (fun _ _ hw => hw.elim (fun h0 => Or.inr (Or.inr (Or.inr (Or.inr (Or.inl (h0.1)))))) (fun h0 => h0.elim (fun h1 => Or.inr (Or.inr (Or.inr (Or.inr (Or.inr (Or.inl (h1))))))) (fun h1 => Or.inr (Or.inr (Or.inr (Or.inr (Or.inr (Or.inr (Or.inl (h1)))))))))))
          obtain ⟨r10, er10, h⟩ := gb_bd_e h
          have Fr10 := gb_Fr.tr Fr8 (hR_X8_readPlain er10)
          obtain ⟨r12, er12, h⟩ := gb_bd_e h
          have Fr12 := gb_Fr.tr Fr10 (gb_Fr.up (w_X7_aimHere er12) (fun _ _ hw => Or.inr (Or.inr (Or.inr (Or.inr (Or.inr (Or.inr (Or.inl (hw)))))))))
          exact gb_Fr.tr Fr12 (ih h)
set_option maxRecDepth 100000 in
set_option maxHeartbeats 4000000 in
theorem w_X8_readBoth {sh : List gb_Sh} {R_X8_readPlain : gb_G → Int32 → Option (gb_G × Int32)} {x1 : Int32} {g : gb_G} (hR_X8_readPlain : ∀ {a0 : gb_G} {a1 : Int32} {o : (gb_G × Int32)}, R_X8_readPlain a0 a1 = some o → gb_Fr (fun c k => (c = 43 ∧ k = 2) ∨ (c = 43 ∧ k = 3) ∨ (c = 43 ∧ k = 4) ∨ (c = 45 ∧ k = 3) ∨ c = 46 ∨ c = 47 ∨ c = 48 ∨ c = 50) a0 o.1) {o : (gb_G × Int32)} (h : f_X8_readBoth sh R_X8_readPlain g x1 = some o) : gb_Fr (fun c k => (c = 43 ∧ k = 2) ∨ (c = 43 ∧ k = 3) ∨ (c = 43 ∧ k = 4) ∨ (c = 45 ∧ k = 3) ∨ c = 46 ∨ c = 47 ∨ c = 48 ∨ c = 50) g o.1 := by
  unfold f_X8_readBoth at h
  have Fg : gb_Fr (fun c k => (c = 43 ∧ k = 2) ∨ (c = 43 ∧ k = 3) ∨ (c = 43 ∧ k = 4) ∨ (c = 45 ∧ k = 3) ∨ c = 46 ∨ c = 47 ∨ c = 48 ∨ c = 50) g g := gb_Fr.rf
  obtain ⟨r1, er1, h⟩ := gb_bd_e h
  have Fr1 := gb_Fr.tr Fg (hR_X8_readPlain er1)
  exact gb_Fr.tr Fr1 (w_X8_readBoth_8 (hR_X8_readPlain) _ h)
set_option maxRecDepth 100000 in
set_option maxHeartbeats 4000000 in
theorem w_X8_readTest_8 {sh : List gb_Sh} {R_X8_readBoth : gb_G → Int32 → Option (gb_G × Int32)} (hR_X8_readBoth : ∀ {a0 : gb_G} {a1 : Int32} {o : (gb_G × Int32)}, R_X8_readBoth a0 a1 = some o → gb_Fr (fun c k => (c = 43 ∧ k = 2) ∨ (c = 43 ∧ k = 3) ∨ (c = 43 ∧ k = 4) ∨ (c = 45 ∧ k = 3) ∨ c = 46 ∨ c = 47 ∨ c = 48 ∨ c = 50) a0 o.1) : ∀ (n : Nat) {g : gb_G} {y1 : Int32} {y2 : Int32} {y3 : Int32} {o : (gb_G × Int32)} (h : f_X8_readTest_8 sh R_X8_readBoth n g y1 y2 y3 = some o), gb_Fr (fun c k => (c = 43 ∧ k = 2) ∨ (c = 43 ∧ k = 3) ∨ (c = 43 ∧ k = 4) ∨ (c = 45 ∧ k = 3) ∨ c = 46 ∨ c = 47 ∨ c = 48 ∨ c = 50) g o.1 := by
  intro n
  induction n with
  | zero => intro g y1 y2 y3 o h; cases h
  | succ n ih =>
    intro g y1 y2 y3 o h
    rw [f_X8_readTest_8] at h
    have Fg : gb_Fr (fun c k => (c = 43 ∧ k = 2) ∨ (c = 43 ∧ k = 3) ∨ (c = 43 ∧ k = 4) ∨ (c = 45 ∧ k = 3) ∨ c = 46 ∨ c = 47 ∨ c = 48 ∨ c = 50) g g := gb_Fr.rf
    rcases gb_ite_e h with h | h
    · obtain ⟨-, h⟩ := gb_bo_e h
      cases h
      exact Fg
    · rcases gb_ite_e h with h | h
      · obtain ⟨-, h⟩ := gb_bo_e h
        cases h
        exact Fg
      · obtain ⟨r5, er5, h⟩ := gb_bd_e h
        have Fr5 := gb_Fr.tr Fg (gb_Fr.up (w_X8_readKeyword er5) (fun _ _ hw => hw.elim (fun h0 => Or.inl (h0)) (fun h0 => h0.elim (fun h1 => Or.inr (Or.inl (h1))) (fun h1 => Or.inr (Or.inr (Or.inl (h1)))))))
        rcases gb_ite_e h with h | h
        · obtain ⟨-, h⟩ := gb_bo_e h
          cases h
          exact Fr5
        · obtain ⟨r8, er8, h⟩ := gb_bd_e h
          have Fr8 := gb_Fr.tr Fr5 (gb_Fr.up (w_X7_emit er8) (fun _ _ hw => hw.elim (fun h0 => Or.inr (Or.inr (Or.inr (Or.inr (Or.inl (h0.1)))))) (fun h0 => h0.elim (fun h1 => Or.inr (Or.inr (Or.inr (Or.inr (Or.inr (Or.inl (h1))))))) (fun h1 => Or.inr (Or.inr (Or.inr (Or.inr (Or.inr (Or.inr (Or.inl (h1)))))))))))
          obtain ⟨r10, er10, h⟩ := gb_bd_e h
          have Fr10 := gb_Fr.tr Fr8 (hR_X8_readBoth er10)
          obtain ⟨r12, er12, h⟩ := gb_bd_e h
          have Fr12 := gb_Fr.tr Fr10 (gb_Fr.up (w_X7_aimHere er12) (fun _ _ hw => Or.inr (Or.inr (Or.inr (Or.inr (Or.inr (Or.inr (Or.inl (hw)))))))))
          exact gb_Fr.tr Fr12 (ih h)
