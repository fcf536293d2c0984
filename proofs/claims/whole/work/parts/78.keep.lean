/-! ===== FAULT stays NONE as long as nothing is bad ===== -/
def gK (g o : gb_G) : Prop := (g.1 77 19 = 0 → g.1 77 18 = -1) → (o.1 77 19 = 0 → o.1 77 18 = -1)
theorem gK.rf {g : gb_G} : gK g g := fun h => h
theorem gK.tr {a b c : gb_G} (h : gK a b) (k : gK b c) : gK a c := fun q => k (h q)
theorem gK.fr {W : Nat → Nat → Prop} {g o : gb_G} (F : gb_Fr W g o) (h8 : ¬ W 77 18) (h9 : ¬ W 77 19) : gK g o := fun h q => (F 77 18 h8).1.trans (h ((F 77 19 h9).1.symm.trans q))
theorem gK.pi {g g1 : gb_G} {c j : Nat} {x : Int32} (h : ¬ (c = 77 ∧ (j = 18 ∨ j = 19))) (e : g1 = gb_pi g c j x) : gK g g1 := by
  subst e
  intro k q
  rw [pi_n (by omega)] at q ⊢
  exact k q
theorem k_X11_must_24 {sh : List gb_Sh} {g : gb_G} {o : gb_G} (h : f_X11_must_24 sh g = some o) : gK g o := by
  unfold f_X11_must_24 at h
  rcases gb_ite_e h with h | h
  · obtain ⟨r1, er1, h⟩ := gb_bd_e h
    cases h
    exact gK.fr (w_X11_next er1) (by omega) (by omega)
  · cases h
    exact gK.rf
theorem k_X11_must {sh : List gb_Sh} {x1 : Int32} {g : gb_G} {o : gb_G} (h : f_X11_must sh g x1 = some o) : gK g o := by
  unfold f_X11_must at h
  rcases gb_ite_e h with h | h
  · rcases gb_ite_e h with h | h
    · obtain ⟨g3, eg3, h⟩ := gb_let_x h
      obtain ⟨g4, eg4, h⟩ := gb_let_x h
      refine gK.tr (b := g4) ?_ (k_X11_must_24 h)
      intro _ q
      subst eg4 eg3
      rw [pi_n (by omega), pi_e] at q
      exact absurd q (by decide)
    · exact k_X11_must_24 h
  · exact k_X11_must_24 h
set_option maxRecDepth 100000 in
set_option maxHeartbeats 4000000 in
theorem k_X11_number_33 {sh : List gb_Sh} {y5 : Int32} {z0 : Int32} {g : gb_G}  {o : (gb_G × Int32)} (h : f_X11_number_33 sh g y5 z0 = some o) : gK g o.1 := by
  unfold f_X11_number_33 at h
  have Fg : gK g g := gK.rf
  obtain ⟨r1, er1, h⟩ := gb_bd_e h
  have Fr1 := gK.tr Fg (k_X11_must er1)
  cases h
  exact Fr1
set_option maxRecDepth 100000 in
set_option maxHeartbeats 4000000 in
theorem k_X11_number {sh : List gb_Sh} {x1 : Int64} {x2 : Int64} {g : gb_G}  {o : (gb_G × Int32)} (h : f_X11_number sh g x1 x2 = some o) : gK g o.1 := by
  unfold f_X11_number at h
  have Fg : gK g g := gK.rf
  rcases gb_ite_e h with h | h
  · obtain ⟨r3, er3, h⟩ := gb_bd_e h
    have Fr3 := gK.tr Fg (gK.fr (w_X11_in er3) (by first | omega | exact id) (by first | omega | exact id))
    rcases gb_ite_e h with h | h
    · exact gK.tr Fr3 (k_X11_number_33 h)
    · exact gK.tr Fr3 (k_X11_number_33 h)
  · exact gK.tr Fg (k_X11_number_33 h)
set_option maxRecDepth 100000 in
set_option maxHeartbeats 4000000 in
theorem k_X11_openBracket_15 {sh : List gb_Sh} {y1 : Int32} {z0 : Int32} {g : gb_G}  {o : (gb_G)} (h : f_X11_openBracket_15 sh g y1 z0 = some o) : gK g o := by
  unfold f_X11_openBracket_15 at h
  have Fg : gK g g := gK.rf
  obtain ⟨r1, er1, h⟩ := gb_bd_e h
  have Fr1 := gK.tr Fg (k_X11_must er1)
  rcases gb_ite_e h with h | h
  · obtain ⟨g3, eg3, h⟩ := gb_let_x h
    have Fg3 := gK.tr Fr1 (gK.pi (by omega) eg3)
    obtain ⟨r4, er4, h⟩ := gb_bd_e h
    have Fr4 := gK.tr Fg3 (gK.fr (w_X11_push er4) (by first | omega | exact id) (by first | omega | exact id))
    cases h
    exact Fr4
  · cases h
    exact Fr1
set_option maxRecDepth 100000 in
set_option maxHeartbeats 4000000 in
theorem k_X11_openBracket {sh : List gb_Sh} {x1 : Int32} {g : gb_G}  {o : (gb_G)} (h : f_X11_openBracket sh g x1 = some o) : gK g o := by
  unfold f_X11_openBracket at h
  have Fg : gK g g := gK.rf
  rcases gb_ite_e h with h | h
  · exact gK.tr Fg (k_X11_openBracket_15 h)
  · exact gK.tr Fg (k_X11_openBracket_15 h)
set_option maxRecDepth 100000 in
set_option maxHeartbeats 4000000 in
theorem k_X11_leaf_19 {sh : List gb_Sh} {y2 : Int32} {y3 : Int32} {z0 : Int32} {g : gb_G}  {o : (gb_G)} (h : f_X11_leaf_19 sh g y2 y3 z0 = some o) : gK g o := by
  unfold f_X11_leaf_19 at h
  have Fg : gK g g := gK.rf
  obtain ⟨r1, er1, h⟩ := gb_bd_e h
  have Fr1 := gK.tr Fg (k_X11_must er1)
  rcases gb_ite_e h with h | h
  · obtain ⟨r3, er3, h⟩ := gb_bd_e h
    have Fr3 := gK.tr Fr1 (gK.fr (w_X11_emit er3) (by first | omega | exact id) (by first | omega | exact id))
    obtain ⟨g5, eg5, h⟩ := gb_let_x h
    have Fg5 := gK.tr Fr3 (gK.pi (by omega) eg5)
    cases h
    exact Fg5
  · cases h
    exact Fr1
set_option maxRecDepth 100000 in
set_option maxHeartbeats 4000000 in
theorem k_X11_leaf {sh : List gb_Sh} {x1 : Int32} {x2 : Int32} {x3 : Int32} {g : gb_G}  {o : (gb_G)} (h : f_X11_leaf sh g x1 x2 x3 = some o) : gK g o := by
  unfold f_X11_leaf at h
  have Fg : gK g g := gK.rf
  rcases gb_ite_e h with h | h
  · exact gK.tr Fg (k_X11_leaf_19 h)
  · rcases gb_ite_e h with h | h
    · exact gK.tr Fg (k_X11_leaf_19 h)
    · exact gK.tr Fg (k_X11_leaf_19 h)
set_option maxRecDepth 100000 in
set_option maxHeartbeats 4000000 in
theorem k_X11_readPart_99 {sh : List gb_Sh} {y1 : Int32} {z0 : Int32} {z1 : Int32} {z2 : Int32} {g : gb_G}  {o : (gb_G × Int32)} (h : f_X11_readPart_99 sh g y1 z0 z1 z2 = some o) : gK g o.1 := by
  unfold f_X11_readPart_99 at h
  have Fg : gK g g := gK.rf
  obtain ⟨r5, er5, h⟩ := gb_bd_e h
  have Fr5 := gK.tr Fg (k_X11_leaf er5)
  rcases gb_ite_e h with h | h
  · cases h
    exact Fr5
  · rcases gb_ite_e h with h | h
    · cases h
      exact Fr5
    · rcases gb_ite_e h with h | h
      · obtain ⟨r7, er7, h⟩ := gb_bd_e h
        have Fr7 := gK.tr Fr5 (k_X11_number er7)
        obtain ⟨-, h⟩ := gb_ck_e h
        obtain ⟨g10, eg10, h⟩ := gb_let_x h
        have Fg10 := gK.tr Fr7 (gK.pi (by omega) eg10)
        cases h
        exact Fg10
      · cases h
        exact Fr5
set_option maxRecDepth 100000 in
set_option maxHeartbeats 4000000 in
theorem k_X11_readPart_86 {sh : List gb_Sh} {y1 : Int32} {y2 : Int32} {z0 : Int32} {z1 : Int32} {g : gb_G}  {o : (gb_G × Int32)} (h : f_X11_readPart_86 sh g y1 y2 z0 z1 = some o) : gK g o.1 := by
  unfold f_X11_readPart_86 at h
  have Fg : gK g g := gK.rf
  rcases gb_ite_e h with h | h
  · exact gK.tr Fg (k_X11_readPart_99 h)
  · exact gK.tr Fg (k_X11_readPart_99 h)
set_option maxRecDepth 100000 in
set_option maxHeartbeats 4000000 in
theorem k_X11_readPart_76 {sh : List gb_Sh} {y1 : Int32} {y2 : Int32} {z0 : Int32} {g : gb_G}  {o : (gb_G × Int32)} (h : f_X11_readPart_76 sh g y1 y2 z0 = some o) : gK g o.1 := by
  unfold f_X11_readPart_76 at h
  have Fg : gK g g := gK.rf
  rcases gb_ite_e h with h | h
  · exact gK.tr Fg (k_X11_readPart_86 h)
  · exact gK.tr Fg (k_X11_readPart_86 h)
set_option maxRecDepth 100000 in
set_option maxHeartbeats 4000000 in
theorem k_X11_readPart_60 {sh : List gb_Sh} {y1 : Int32} {z0 : Int32} {g : gb_G}  {o : (gb_G × Int32)} (h : f_X11_readPart_60 sh g y1 z0 = some o) : gK g o.1 := by
  unfold f_X11_readPart_60 at h
  have Fg : gK g g := gK.rf
  rcases gb_ite_e h with h | h
  · rcases gb_ite_e h with h | h
    · exact gK.tr Fg (k_X11_readPart_76 h)
    · exact gK.tr Fg (k_X11_readPart_76 h)
  · exact gK.tr Fg (k_X11_readPart_76 h)
set_option maxRecDepth 100000 in
set_option maxHeartbeats 4000000 in
theorem k_X11_readPart_35 {sh : List gb_Sh} {z0 : Int32} {g : gb_G}  {o : (gb_G × Int32)} (h : f_X11_readPart_35 sh g z0 = some o) : gK g o.1 := by
  unfold f_X11_readPart_35 at h
  have Fg : gK g g := gK.rf
  rcases gb_ite_e h with h | h
  · rcases gb_ite_e h with h | h
    · exact gK.tr Fg (k_X11_readPart_60 h)
    · exact gK.tr Fg (k_X11_readPart_60 h)
  · exact gK.tr Fg (k_X11_readPart_60 h)
set_option maxRecDepth 100000 in
set_option maxHeartbeats 4000000 in
theorem k_X11_readPart {sh : List gb_Sh} {g : gb_G}  {o : (gb_G × Int32)} (h : f_X11_readPart sh g = some o) : gK g o.1 := by
  unfold f_X11_readPart at h
  have Fg : gK g g := gK.rf
  obtain ⟨r1, er1, h⟩ := gb_bd_e h
  have Fr1 := gK.tr Fg (gK.fr (w_X11_isSign er1) (by first | omega | exact id) (by first | omega | exact id))
  rcases gb_ite_e h with h | h
  · rcases gb_ite_e h with h | h
    · obtain ⟨r3, er3, h⟩ := gb_bd_e h
      have Fr3 := gK.tr Fr1 (gK.fr (w_X11_partAt er3) (by first | omega | exact id) (by first | omega | exact id))
      exact gK.tr Fr3 (k_X11_readPart_35 h)
    · obtain ⟨r11, er11, h⟩ := gb_bd_e h
      have Fr11 := gK.tr Fr1 (gK.fr (w_X11_orderPartAt er11) (by first | omega | exact id) (by first | omega | exact id))
      exact gK.tr Fr11 (k_X11_readPart_35 h)
  · obtain ⟨r13, er13, h⟩ := gb_bd_e h
    have Fr13 := gK.tr Fr1 (k_X11_openBracket er13)
    cases h
    exact Fr13
set_option maxRecDepth 100000 in
set_option maxHeartbeats 4000000 in
theorem k_X11_readPlain {sh : List gb_Sh} {g : gb_G}  {o : (gb_G × Int32)} (h : f_X11_readPlain sh g = some o) : gK g o.1 := by
  unfold f_X11_readPlain at h
  have Fg : gK g g := gK.rf
  obtain ⟨r1, er1, h⟩ := gb_bd_e h
  have Fr1 := gK.tr Fg (gK.fr (w_X11_isWord er1) (by first | omega | exact id) (by first | omega | exact id))
  rcases gb_ite_e h with h | h
  · obtain ⟨r3, er3, h⟩ := gb_bd_e h
    have Fr3 := gK.tr Fr1 (gK.fr (w_X11_isSign er3) (by first | omega | exact id) (by first | omega | exact id))
    rcases gb_ite_e h with h | h
    · obtain ⟨r5, er5, h⟩ := gb_bd_e h
      have Fr5 := gK.tr Fr3 (k_X11_readPart er5)
      cases h
      exact Fr5
    · obtain ⟨r7, er7, h⟩ := gb_bd_e h
      have Fr7 := gK.tr Fr3 (k_X11_openBracket er7)
      cases h
      exact Fr7
  · obtain ⟨r9, er9, h⟩ := gb_bd_e h
    have Fr9 := gK.tr Fr1 (gK.fr (w_X11_push er9) (by first | omega | exact id) (by first | omega | exact id))
    obtain ⟨r11, er11, h⟩ := gb_bd_e h
    have Fr11 := gK.tr Fr9 (gK.fr (w_X11_next er11) (by first | omega | exact id) (by first | omega | exact id))
    cases h
    exact Fr11
set_option maxRecDepth 100000 in
set_option maxHeartbeats 4000000 in
theorem k_X11_behindSum_224 {sh : List gb_Sh} {y2 : Int32} {z0 : Int32} {g : gb_G}  {o : (gb_G × Int32)} (h : f_X11_behindSum_224 sh g y2 z0 = some o) : gK g o.1 := by
  unfold f_X11_behindSum_224 at h
  have Fg : gK g g := gK.rf
  obtain ⟨r19, er19, h⟩ := gb_bd_e h
  have Fr19 := gK.tr Fg (k_X11_must er19)
  rcases gb_ite_e h with h | h
  · obtain ⟨r21, er21, h⟩ := gb_bd_e h
    have Fr21 := gK.tr Fr19 (gK.fr (w_X11_settle er21) (by first | omega | exact id) (by first | omega | exact id))
    obtain ⟨r23, er23, h⟩ := gb_bd_e h
    have Fr23 := gK.tr Fr21 (gK.fr (w_X11_push er23) (by first | omega | exact id) (by first | omega | exact id))
    cases h
    exact Fr23
  · cases h
    exact Fr19
set_option maxRecDepth 100000 in
set_option maxHeartbeats 4000000 in
theorem k_X11_behindSum_202 {sh : List gb_Sh} {z0 : Int32} {g : gb_G}  {o : (gb_G × Int32)} (h : f_X11_behindSum_202 sh g z0 = some o) : gK g o.1 := by
  unfold f_X11_behindSum_202 at h
  have Fg : gK g g := gK.rf
  rcases gb_ite_e h with h | h
  · obtain ⟨r25, er25, h⟩ := gb_bd_e h
    have Fr25 := gK.tr Fg (gK.fr (w_X11_isSign er25) (by first | omega | exact id) (by first | omega | exact id))
    rcases gb_ite_e h with h | h
    · exact gK.tr Fr25 (k_X11_behindSum_224 h)
    · exact gK.tr Fr25 (k_X11_behindSum_224 h)
  · exact gK.tr Fg (k_X11_behindSum_224 h)
set_option maxRecDepth 100000 in
set_option maxHeartbeats 4000000 in
theorem k_X11_behindSum_163 {sh : List gb_Sh} {g : gb_G}  {o : (gb_G × Int32)} (h : f_X11_behindSum_163 sh g = some o) : gK g o.1 := by
  unfold f_X11_behindSum_163 at h
  have Fg : gK g g := gK.rf
  obtain ⟨r13, er13, h⟩ := gb_bd_e h
  have Fr13 := gK.tr Fg (gK.fr (w_X11_isCompared er13) (by first | omega | exact id) (by first | omega | exact id))
  rcases gb_ite_e h with h | h
  · obtain ⟨r15, er15, h⟩ := gb_bd_e h
    have Fr15 := gK.tr Fr13 (gK.fr (w_X11_isSign er15) (by first | omega | exact id) (by first | omega | exact id))
    rcases gb_ite_e h with h | h
    · obtain ⟨r17, er17, h⟩ := gb_bd_e h
      have Fr17 := gK.tr Fr15 (gK.fr (w_X11_isSign er17) (by first | omega | exact id) (by first | omega | exact id))
      rcases gb_ite_e h with h | h
      · exact gK.tr Fr17 (k_X11_behindSum_202 h)
      · exact gK.tr Fr17 (k_X11_behindSum_202 h)
    · exact gK.tr Fr15 (k_X11_behindSum_202 h)
  · cases h
    exact Fr13
set_option maxRecDepth 100000 in
set_option maxHeartbeats 4000000 in
theorem k_X11_behindSum_71 {sh : List gb_Sh} {y1 : Int32} {z0 : Int32} {g : gb_G}  {o : (gb_G × Int32)} (h : f_X11_behindSum_71 sh g y1 z0 = some o) : gK g o.1 := by
  unfold f_X11_behindSum_71 at h
  have Fg : gK g g := gK.rf
  rcases gb_ite_e h with h | h
  · obtain ⟨r11, er11, h⟩ := gb_bd_e h
    have Fr11 := gK.tr Fg (gK.fr (w_X11_inner er11) (by first | omega | exact id) (by first | omega | exact id))
    rcases gb_ite_e h with h | h
    · obtain ⟨r27, er27, h⟩ := gb_bd_e h
      have Fr27 := gK.tr Fr11 (gK.fr (w_X11_isSign er27) (by first | omega | exact id) (by first | omega | exact id))
      obtain ⟨r29, er29, h⟩ := gb_bd_e h
      have Fr29 := gK.tr Fr27 (k_X11_must er29)
      rcases gb_ite_e h with h | h
      · obtain ⟨r31, er31, h⟩ := gb_bd_e h
        have Fr31 := gK.tr Fr29 (gK.fr (w_X11_settle er31) (by first | omega | exact id) (by first | omega | exact id))
        obtain ⟨g33, eg33, h⟩ := gb_let_x h
        have Fg33 := gK.tr Fr31 (gK.pi (by omega) eg33)
        obtain ⟨g34, eg34, h⟩ := gb_let_x h
        have Fg34 := gK.tr Fg33 (gK.pi (by omega) eg34)
        cases h
        exact Fg34
      · cases h
        exact Fr29
    · rcases gb_ite_e h with h | h
      · rcases gb_ite_e h with h | h
        · cases h
          exact Fr11
        · exact gK.tr Fr11 (k_X11_behindSum_163 h)
      · exact gK.tr Fr11 (k_X11_behindSum_163 h)
  · obtain ⟨r35, er35, h⟩ := gb_bd_e h
    have Fr35 := gK.tr Fg (gK.fr (w_X11_binds er35) (by first | omega | exact id) (by first | omega | exact id))
    obtain ⟨r37, er37, h⟩ := gb_bd_e h
    have Fr37 := gK.tr Fr35 (gK.fr (w_X11_settle er37) (by first | omega | exact id) (by first | omega | exact id))
    obtain ⟨r39, er39, h⟩ := gb_bd_e h
    have Fr39 := gK.tr Fr37 (gK.fr (w_X11_push er39) (by first | omega | exact id) (by first | omega | exact id))
    obtain ⟨r41, er41, h⟩ := gb_bd_e h
    have Fr41 := gK.tr Fr39 (gK.fr (w_X11_next er41) (by first | omega | exact id) (by first | omega | exact id))
    cases h
    exact Fr41

/-! ===== which cells a function may write (on) ===== -/
set_option maxRecDepth 100000 in
set_option maxHeartbeats 4000000 in
theorem k_X11_behindSum {sh : List gb_Sh} {x1 : Int32} {g : gb_G}  {o : (gb_G × Int32)} (h : f_X11_behindSum sh g x1 = some o) : gK g o.1 := by
  unfold f_X11_behindSum at h
  have Fg : gK g g := gK.rf
  obtain ⟨r1, er1, h⟩ := gb_bd_e h
  have Fr1 := gK.tr Fg (gK.fr (w_X11_isSign er1) (by first | omega | exact id) (by first | omega | exact id))
  rcases gb_ite_e h with h | h
  · obtain ⟨r3, er3, h⟩ := gb_bd_e h
    have Fr3 := gK.tr Fr1 (gK.fr (w_X11_isSign er3) (by first | omega | exact id) (by first | omega | exact id))
    rcases gb_ite_e h with h | h
    · obtain ⟨r5, er5, h⟩ := gb_bd_e h
      have Fr5 := gK.tr Fr3 (gK.fr (w_X11_isSign er5) (by first | omega | exact id) (by first | omega | exact id))
      rcases gb_ite_e h with h | h
      · obtain ⟨r7, er7, h⟩ := gb_bd_e h
        have Fr7 := gK.tr Fr5 (gK.fr (w_X11_isSign er7) (by first | omega | exact id) (by first | omega | exact id))
        rcases gb_ite_e h with h | h
        · obtain ⟨r9, er9, h⟩ := gb_bd_e h
          have Fr9 := gK.tr Fr7 (gK.fr (w_X11_isSign er9) (by first | omega | exact id) (by first | omega | exact id))
          rcases gb_ite_e h with h | h
          · exact gK.tr Fr9 (k_X11_behindSum_71 h)
          · exact gK.tr Fr9 (k_X11_behindSum_71 h)
        · exact gK.tr Fr7 (k_X11_behindSum_71 h)
      · exact gK.tr Fr5 (k_X11_behindSum_71 h)
    · exact gK.tr Fr3 (k_X11_behindSum_71 h)
  · exact gK.tr Fr1 (k_X11_behindSum_71 h)
set_option maxRecDepth 100000 in
set_option maxHeartbeats 4000000 in
theorem k_X11_behindTest_66 {sh : List gb_Sh} {z0 : Int32} {g : gb_G}  {o : (gb_G × Int32)} (h : f_X11_behindTest_66 sh g z0 = some o) : gK g o.1 := by
  unfold f_X11_behindTest_66 at h
  have Fg : gK g g := gK.rf
  obtain ⟨r7, er7, h⟩ := gb_bd_e h
  have Fr7 := gK.tr Fg (gK.fr (w_X11_emit er7) (by first | omega | exact id) (by first | omega | exact id))
  obtain ⟨r9, er9, h⟩ := gb_bd_e h
  have Fr9 := gK.tr Fr7 (gK.fr (w_X11_next er9) (by first | omega | exact id) (by first | omega | exact id))
  cases h
  exact Fr9
set_option maxRecDepth 100000 in
set_option maxHeartbeats 4000000 in
theorem k_X11_behindTest_47 {sh : List gb_Sh} {y1 : Int32} {z0 : Int32} {g : gb_G}  {o : (gb_G × Int32)} (h : f_X11_behindTest_47 sh g y1 z0 = some o) : gK g o.1 := by
  unfold f_X11_behindTest_47 at h
  have Fg : gK g g := gK.rf
  obtain ⟨r5, er5, h⟩ := gb_bd_e h
  have Fr5 := gK.tr Fg (gK.fr (w_X11_push er5) (by first | omega | exact id) (by first | omega | exact id))
  rcases gb_ite_e h with h | h
  · exact gK.tr Fr5 (k_X11_behindTest_66 h)
  · exact gK.tr Fr5 (k_X11_behindTest_66 h)
set_option maxRecDepth 100000 in
set_option maxHeartbeats 4000000 in
theorem k_X11_behindTest_32 {sh : List gb_Sh} {y1 : Int32} {z0 : Int32} {g : gb_G}  {o : (gb_G × Int32)} (h : f_X11_behindTest_32 sh g y1 z0 = some o) : gK g o.1 := by
  unfold f_X11_behindTest_32 at h
  have Fg : gK g g := gK.rf
  obtain ⟨r3, er3, h⟩ := gb_bd_e h
  have Fr3 := gK.tr Fg (gK.fr (w_X11_settle er3) (by first | omega | exact id) (by first | omega | exact id))
  rcases gb_ite_e h with h | h
  · exact gK.tr Fr3 (k_X11_behindTest_47 h)
  · exact gK.tr Fr3 (k_X11_behindTest_47 h)
set_option maxRecDepth 100000 in
set_option maxHeartbeats 4000000 in
theorem k_X11_behindTest_22 {sh : List gb_Sh} {y1 : Int32} {g : gb_G}  {o : (gb_G × Int32)} (h : f_X11_behindTest_22 sh g y1 = some o) : gK g o.1 := by
  unfold f_X11_behindTest_22 at h
  have Fg : gK g g := gK.rf
  rcases gb_ite_e h with h | h
  · exact gK.tr Fg (k_X11_behindTest_32 h)
  · exact gK.tr Fg (k_X11_behindTest_32 h)
set_option maxRecDepth 100000 in
set_option maxHeartbeats 4000000 in
theorem k_X11_behindTest {sh : List gb_Sh} {g : gb_G}  {o : (gb_G × Int32)} (h : f_X11_behindTest sh g = some o) : gK g o.1 := by
  unfold f_X11_behindTest at h
  have Fg : gK g g := gK.rf
  obtain ⟨r1, er1, h⟩ := gb_bd_e h
  have Fr1 := gK.tr Fg (gK.fr (w_X11_isWord er1) (by first | omega | exact id) (by first | omega | exact id))
  rcases gb_ite_e h with h | h
  · obtain ⟨r11, er11, h⟩ := gb_bd_e h
    have Fr11 := gK.tr Fr1 (gK.fr (w_X11_isWord er11) (by first | omega | exact id) (by first | omega | exact id))
    rcases gb_ite_e h with h | h
    · obtain ⟨r13, er13, h⟩ := gb_bd_e h
      have Fr13 := gK.tr Fr11 (gK.fr (w_X11_inner er13) (by first | omega | exact id) (by first | omega | exact id))
      rcases gb_ite_e h with h | h
      · cases h
        exact Fr13
      · obtain ⟨r15, er15, h⟩ := gb_bd_e h
        have Fr15 := gK.tr Fr13 (gK.fr (w_X11_isSign er15) (by first | omega | exact id) (by first | omega | exact id))
        obtain ⟨r17, er17, h⟩ := gb_bd_e h
        have Fr17 := gK.tr Fr15 (k_X11_must er17)
        rcases gb_ite_e h with h | h
        · obtain ⟨r19, er19, h⟩ := gb_bd_e h
          have Fr19 := gK.tr Fr17 (gK.fr (w_X11_settle er19) (by first | omega | exact id) (by first | omega | exact id))
          obtain ⟨g21, eg21, h⟩ := gb_let_x h
          have Fg21 := gK.tr Fr19 (gK.pi (by omega) eg21)
          obtain ⟨g22, eg22, h⟩ := gb_let_x h
          have Fg22 := gK.tr Fg21 (gK.pi (by omega) eg22)
          cases h
          exact Fg22
        · cases h
          exact Fr17
    · exact gK.tr Fr11 (k_X11_behindTest_22 h)
  · exact gK.tr Fr1 (k_X11_behindTest_22 h)
set_option maxRecDepth 100000 in
set_option maxHeartbeats 4000000 in
theorem k_X11_readExpression_76 {sh : List gb_Sh} {g : gb_G}  {o : (gb_G)} (h : f_X11_readExpression_76 sh g = some o) : gK g o := by
  unfold f_X11_readExpression_76 at h
  have Fg : gK g g := gK.rf
  obtain ⟨r3, er3, h⟩ := gb_bd_e h
  have Fr3 := gK.tr Fg (gK.fr (w_X11_settle er3) (by first | omega | exact id) (by first | omega | exact id))
  cases h
  exact Fr3
set_option maxRecDepth 100000 in
set_option maxHeartbeats 4000000 in
theorem k_X11_readExpression_72 {sh : List gb_Sh} {K20 : gb_G → Int32 → Int32 → Option (gb_G)} {y1 : Int32} {z0 : Int32} {g : gb_G} (hK20 : ∀ {a0 : gb_G} {a1 : Int32} {a2 : Int32} {o : (gb_G)}, K20 a0 a1 a2 = some o → gK a0 o) {o : (gb_G)} (h : f_X11_readExpression_72 sh K20 g y1 z0 = some o) : gK g o := by
  unfold f_X11_readExpression_72 at h
  have Fg : gK g g := gK.rf
  exact gK.tr Fg (hK20 h)
set_option maxRecDepth 100000 in
set_option maxHeartbeats 4000000 in
theorem k_X11_readExpression_20 {sh : List gb_Sh}  : ∀ (n : Nat) {g : gb_G} {y1 : Int32} {y2 : Int32} {o : (gb_G)} (h : f_X11_readExpression_20 sh n g y1 y2 = some o), gK g o := by
  intro n
  induction n with
  | zero => intro g y1 y2 o h; cases h
  | succ n ih =>
    intro g y1 y2 o h
    rw [f_X11_readExpression_20] at h
    have Fg : gK g g := gK.rf
    rcases gb_ite_e h with h | h
    · rcases gb_ite_e h with h | h
      · exact gK.tr Fg (k_X11_readExpression_76 h)
      · rcases gb_ite_e h with h | h
        · obtain ⟨r11, er11, h⟩ := gb_bd_e h
          have Fr11 := gK.tr Fg (k_X11_readPlain er11)
          exact gK.tr Fr11 (k_X11_readExpression_72 (fun hh => ih hh) h)
        · rcases gb_ite_e h with h | h
          · obtain ⟨r9, er9, h⟩ := gb_bd_e h
            have Fr9 := gK.tr Fg (k_X11_readPart er9)
            exact gK.tr Fr9 (k_X11_readExpression_72 (fun hh => ih hh) h)
          · rcases gb_ite_e h with h | h
            · obtain ⟨r7, er7, h⟩ := gb_bd_e h
              have Fr7 := gK.tr Fg (k_X11_behindSum er7)
              exact gK.tr Fr7 (k_X11_readExpression_72 (fun hh => ih hh) h)
            · obtain ⟨r5, er5, h⟩ := gb_bd_e h
              have Fr5 := gK.tr Fg (k_X11_behindTest er5)
              exact gK.tr Fr5 (k_X11_readExpression_72 (fun hh => ih hh) h)
    · exact gK.tr Fg (k_X11_readExpression_76 h)
set_option maxRecDepth 100000 in
set_option maxHeartbeats 4000000 in
theorem k_X11_readExpression_19 {sh : List gb_Sh} {y1 : Int32} {z0 : Int32} {g : gb_G}  {o : (gb_G)} (h : f_X11_readExpression_19 sh g y1 z0 = some o) : gK g o := by
  unfold f_X11_readExpression_19 at h
  have Fg : gK g g := gK.rf
  exact gK.tr Fg (k_X11_readExpression_20 _ h)
set_option maxRecDepth 100000 in
set_option maxHeartbeats 4000000 in
theorem k_X11_readExpression {sh : List gb_Sh} {x1 : Int32} {g : gb_G}  {o : (gb_G)} (h : f_X11_readExpression sh g x1 = some o) : gK g o := by
  unfold f_X11_readExpression at h
  have Fg : gK g g := gK.rf
  obtain ⟨g1, eg1, h⟩ := gb_let_x h
  have Fg1 := gK.tr Fg (gK.pi (by omega) eg1)
  obtain ⟨g2, eg2, h⟩ := gb_let_x h
  have Fg2 := gK.tr Fg1 (gK.pi (by omega) eg2)
  rcases gb_ite_e h with h | h
  · exact gK.tr Fg2 (k_X11_readExpression_19 h)
  · exact gK.tr Fg2 (k_X11_readExpression_19 h)
set_option maxRecDepth 100000 in
set_option maxHeartbeats 4000000 in
theorem k_X11_readLaw_185 {sh : List gb_Sh} {y2 : Int32} {g : gb_G}  {o : (gb_G)} (h : f_X11_readLaw_185 sh g y2 = some o) : gK g o := by
  unfold f_X11_readLaw_185 at h
  have Fg : gK g g := gK.rf
  obtain ⟨-, h⟩ := gb_ck_e h
  obtain ⟨g13, eg13, h⟩ := gb_let_x h
  have Fg13 := gK.tr Fg (gK.pi (by omega) eg13)
  cases h
  exact Fg13
set_option maxRecDepth 100000 in
set_option maxHeartbeats 4000000 in
theorem k_X11_readLaw_135 {sh : List gb_Sh} {y2 : Int32} {g : gb_G}  {o : (gb_G)} (h : f_X11_readLaw_135 sh g y2 = some o) : gK g o := by
  unfold f_X11_readLaw_135 at h
  have Fg : gK g g := gK.rf
  obtain ⟨-, h⟩ := gb_ck_e h
  obtain ⟨g9, eg9, h⟩ := gb_let_x h
  have Fg9 := gK.tr Fg (gK.pi (by omega) eg9)
  obtain ⟨-, h⟩ := gb_ck_e h
  obtain ⟨g11, eg11, h⟩ := gb_let_x h
  have Fg11 := gK.tr Fg9 (gK.pi (by omega) eg11)
  rcases gb_ite_e h with h | h
  · obtain ⟨r14, er14, h⟩ := gb_bd_e h
    have Fr14 := gK.tr Fg11 (gK.fr (w_X11_isWord er14) (by first | omega | exact id) (by first | omega | exact id))
    rcases gb_ite_e h with h | h
    · exact gK.tr Fr14 (k_X11_readLaw_185 h)
    · obtain ⟨r16, er16, h⟩ := gb_bd_e h
      have Fr16 := gK.tr Fr14 (gK.fr (w_X11_next er16) (by first | omega | exact id) (by first | omega | exact id))
      obtain ⟨r18, er18, h⟩ := gb_bd_e h
      have Fr18 := gK.tr Fr16 (k_X11_readExpression er18)
      exact gK.tr Fr18 (k_X11_readLaw_185 h)
  · exact gK.tr Fg11 (k_X11_readLaw_185 h)
set_option maxRecDepth 100000 in
set_option maxHeartbeats 4000000 in
theorem k_X11_readLaw_75 {sh : List gb_Sh}  : ∀ (n : Nat) {g : gb_G} {y1 : Int32} {y2 : Int32} {y3 : Int32} {o : (gb_G)} (h : f_X11_readLaw_75 sh n g y1 y2 y3 = some o), gK g o := by
  intro n
  induction n with
  | zero => intro g y1 y2 y3 o h; cases h
  | succ n ih =>
    intro g y1 y2 y3 o h
    rw [f_X11_readLaw_75] at h
    have Fg : gK g g := gK.rf
    rcases gb_ite_e h with h | h
    · obtain ⟨-, h⟩ := gb_ck_e h
      obtain ⟨g4, eg4, h⟩ := gb_let_x h
      have Fg4 := gK.tr Fg (gK.pi (by omega) eg4)
      obtain ⟨g5, eg5, h⟩ := gb_let_x h
      have Fg5 := gK.tr Fg4 (gK.pi (by omega) eg5)
      obtain ⟨-, h⟩ := gb_ck_e h
      obtain ⟨g7, eg7, h⟩ := gb_let_x h
      have Fg7 := gK.tr Fg5 (gK.pi (by omega) eg7)
      rcases gb_ite_e h with h | h
      · exact gK.tr Fg7 (k_X11_readLaw_135 h)
      · obtain ⟨r20, er20, h⟩ := gb_bd_e h
        have Fr20 := gK.tr Fg7 (k_X11_readExpression er20)
        exact gK.tr Fr20 (k_X11_readLaw_135 h)
    · obtain ⟨-, h⟩ := gb_ck_e h
      obtain ⟨g23, eg23, h⟩ := gb_let_x h
      have Fg23 := gK.tr Fg (gK.pi (by omega) eg23)
      exact gK.tr Fg23 (ih h)
set_option maxRecDepth 100000 in
set_option maxHeartbeats 4000000 in
theorem k_X11_readLaw_54 {sh : List gb_Sh} {y1 : Int32} {z0 : Int32} {g : gb_G}  {o : (gb_G)} (h : f_X11_readLaw_54 sh g y1 z0 = some o) : gK g o := by
  unfold f_X11_readLaw_54 at h
  have Fg : gK g g := gK.rf
  obtain ⟨r1, er1, h⟩ := gb_bd_e h
  have Fr1 := gK.tr Fg (k_X11_must er1)
  rcases gb_ite_e h with h | h
  · exact gK.tr Fr1 (k_X11_readLaw_75 _ h)
  · cases h
    exact Fr1
set_option maxRecDepth 100000 in
set_option maxHeartbeats 4000000 in
theorem k_X11_readLaw_27 {sh : List gb_Sh} {K4 : gb_G → Int32 → Int32 → Option (gb_G)} {y2 : Int32} {z0 : Int32} {g : gb_G} (hK4 : ∀ {a0 : gb_G} {a1 : Int32} {a2 : Int32} {o : (gb_G)}, K4 a0 a1 a2 = some o → gK a0 o) {o : (gb_G)} (h : f_X11_readLaw_27 sh K4 g y2 z0 = some o) : gK g o := by
  unfold f_X11_readLaw_27 at h
  have Fg : gK g g := gK.rf
  exact gK.tr Fg (hK4 h)
set_option maxRecDepth 100000 in
set_option maxHeartbeats 4000000 in
theorem k_X11_readLaw_4 {sh : List gb_Sh}  : ∀ (n : Nat) {g : gb_G} {y1 : Int32} {y2 : Int32} {o : (gb_G)} (h : f_X11_readLaw_4 sh n g y1 y2 = some o), gK g o := by
  intro n
  induction n with
  | zero => intro g y1 y2 o h; cases h
  | succ n ih =>
    intro g y1 y2 o h
    rw [f_X11_readLaw_4] at h
    have Fg : gK g g := gK.rf
    rcases gb_ite_e h with h | h
    · rcases gb_ite_e h with h | h
      · exact gK.tr Fg (k_X11_readLaw_54 h)
      · rcases gb_ite_e h with h | h
        · exact gK.tr Fg (k_X11_readLaw_54 h)
        · exact gK.tr Fg (k_X11_readLaw_54 h)
    · obtain ⟨-, h⟩ := gb_ck_e h
      obtain ⟨r25, er25, h⟩ := gb_bd_e h
      have Fr25 := gK.tr Fg (gK.fr (w_X11_isWord er25) (by first | omega | exact id) (by first | omega | exact id))
      rcases gb_ite_e h with h | h
      · exact gK.tr Fr25 (k_X11_readLaw_27 (fun hh => ih hh) h)
      · exact gK.tr Fr25 (k_X11_readLaw_27 (fun hh => ih hh) h)
set_option maxRecDepth 100000 in
set_option maxHeartbeats 4000000 in
theorem k_X11_readLaw {sh : List gb_Sh} {g : gb_G}  {o : (gb_G)} (h : f_X11_readLaw sh g = some o) : gK g o := by
  unfold f_X11_readLaw at h
  have Fg : gK g g := gK.rf
  exact gK.tr Fg (k_X11_readLaw_4 _ h)
set_option maxRecDepth 100000 in
set_option maxHeartbeats 4000000 in
theorem k_X11_readSum_22 {sh : List gb_Sh} {y1 : Int32} {g : gb_G}  {o : (gb_G)} (h : f_X11_readSum_22 sh g y1 = some o) : gK g o := by
  unfold f_X11_readSum_22 at h
  have Fg : gK g g := gK.rf
  obtain ⟨-, h⟩ := gb_ck_e h
  obtain ⟨g4, eg4, h⟩ := gb_let_x h
  have Fg4 := gK.tr Fg (gK.pi (by omega) eg4)
  cases h
  exact Fg4
set_option maxRecDepth 100000 in
set_option maxHeartbeats 4000000 in
theorem k_X11_readSum {sh : List gb_Sh} {x1 : Int32} {g : gb_G}  {o : (gb_G)} (h : f_X11_readSum sh g x1 = some o) : gK g o := by
  unfold f_X11_readSum at h
  have Fg : gK g g := gK.rf
  obtain ⟨-, h⟩ := gb_ck_e h
  obtain ⟨g2, eg2, h⟩ := gb_let_x h
  have Fg2 := gK.tr Fg (gK.pi (by omega) eg2)
  rcases gb_ite_e h with h | h
  · obtain ⟨r5, er5, h⟩ := gb_bd_e h
    have Fr5 := gK.tr Fg2 (k_X11_readExpression er5)
    exact gK.tr Fr5 (k_X11_readSum_22 h)
  · exact gK.tr Fg2 (k_X11_readSum_22 h)
set_option maxRecDepth 100000 in
set_option maxHeartbeats 4000000 in
theorem k_X11_readOrder_241 {sh : List gb_Sh} {y2 : Int32} {g : gb_G}  {o : (gb_G)} (h : f_X11_readOrder_241 sh g y2 = some o) : gK g o := by
  unfold f_X11_readOrder_241 at h
  have Fg : gK g g := gK.rf
  obtain ⟨-, h⟩ := gb_ck_e h
  obtain ⟨g11, eg11, h⟩ := gb_let_x h
  have Fg11 := gK.tr Fg (gK.pi (by omega) eg11)
  cases h
  exact Fg11
set_option maxRecDepth 100000 in
set_option maxHeartbeats 4000000 in
theorem k_X11_readOrder_203 {sh : List gb_Sh} {y2 : Int32} {g : gb_G}  {o : (gb_G)} (h : f_X11_readOrder_203 sh g y2 = some o) : gK g o := by
  unfold f_X11_readOrder_203 at h
  have Fg : gK g g := gK.rf
  obtain ⟨-, h⟩ := gb_ck_e h
  obtain ⟨g9, eg9, h⟩ := gb_let_x h
  have Fg9 := gK.tr Fg (gK.pi (by omega) eg9)
  rcases gb_ite_e h with h | h
  · obtain ⟨r12, er12, h⟩ := gb_bd_e h
    have Fr12 := gK.tr Fg9 (gK.fr (w_X11_isWord er12) (by first | omega | exact id) (by first | omega | exact id))
    rcases gb_ite_e h with h | h
    · exact gK.tr Fr12 (k_X11_readOrder_241 h)
    · obtain ⟨r14, er14, h⟩ := gb_bd_e h
      have Fr14 := gK.tr Fr12 (gK.fr (w_X11_next er14) (by first | omega | exact id) (by first | omega | exact id))
      obtain ⟨r16, er16, h⟩ := gb_bd_e h
      have Fr16 := gK.tr Fr14 (k_X11_readExpression er16)
      exact gK.tr Fr16 (k_X11_readOrder_241 h)
  · exact gK.tr Fg9 (k_X11_readOrder_241 h)

/-! ===== which cells a function may write (on) ===== -/
set_option maxRecDepth 100000 in
set_option maxHeartbeats 4000000 in
theorem k_X11_readOrder_155 {sh : List gb_Sh} {y2 : Int32} {g : gb_G}  {o : (gb_G)} (h : f_X11_readOrder_155 sh g y2 = some o) : gK g o := by
  unfold f_X11_readOrder_155 at h
  have Fg : gK g g := gK.rf
  obtain ⟨-, h⟩ := gb_ck_e h
  obtain ⟨g7, eg7, h⟩ := gb_let_x h
  have Fg7 := gK.tr Fg (gK.pi (by omega) eg7)
  rcases gb_ite_e h with h | h
  · obtain ⟨r18, er18, h⟩ := gb_bd_e h
    have Fr18 := gK.tr Fg7 (gK.fr (w_X11_isWord er18) (by first | omega | exact id) (by first | omega | exact id))
    rcases gb_ite_e h with h | h
    · exact gK.tr Fr18 (k_X11_readOrder_203 h)
    · obtain ⟨r20, er20, h⟩ := gb_bd_e h
      have Fr20 := gK.tr Fr18 (gK.fr (w_X11_next er20) (by first | omega | exact id) (by first | omega | exact id))
      obtain ⟨r22, er22, h⟩ := gb_bd_e h
      have Fr22 := gK.tr Fr20 (k_X11_number er22)
      obtain ⟨-, h⟩ := gb_ck_e h
      obtain ⟨g25, eg25, h⟩ := gb_let_x h
      have Fg25 := gK.tr Fr22 (gK.pi (by omega) eg25)
      exact gK.tr Fg25 (k_X11_readOrder_203 h)
  · exact gK.tr Fg7 (k_X11_readOrder_203 h)
set_option maxRecDepth 100000 in
set_option maxHeartbeats 4000000 in
theorem k_X11_readOrder_148 {sh : List gb_Sh} {K155 : gb_G → Int32 → Option (gb_G)} {y2 : Int32} {g : gb_G} (hK155 : ∀ {a0 : gb_G} {a1 : Int32} {o : (gb_G)}, K155 a0 a1 = some o → gK a0 o) {o : (gb_G)} (h : f_X11_readOrder_148 sh K155 g y2 = some o) : gK g o := by
  unfold f_X11_readOrder_148 at h
  have Fg : gK g g := gK.rf
  obtain ⟨r26, er26, h⟩ := gb_bd_e h
  have Fr26 := gK.tr Fg (k_X11_readSum er26)
  exact gK.tr Fr26 (hK155 h)
set_option maxRecDepth 100000 in
set_option maxHeartbeats 4000000 in
theorem k_X11_readOrder_125 {sh : List gb_Sh} {y1 : Int32} {y2 : Int32} {g : gb_G}  {o : (gb_G)} (h : f_X11_readOrder_125 sh g y1 y2 = some o) : gK g o := by
  unfold f_X11_readOrder_125 at h
  have Fg : gK g g := gK.rf
  rcases gb_ite_e h with h | h
  · rcases gb_ite_e h with h | h
    · obtain ⟨r28, er28, h⟩ := gb_bd_e h
      have Fr28 := gK.tr Fg (gK.fr (w_X11_isWord er28) (by first | omega | exact id) (by first | omega | exact id))
      obtain ⟨r30, er30, h⟩ := gb_bd_e h
      have Fr30 := gK.tr Fr28 (k_X11_must er30)
      exact gK.tr Fr30 (k_X11_readOrder_148 (fun hh => k_X11_readOrder_155 hh) h)
    · exact gK.tr Fg (k_X11_readOrder_148 (fun hh => k_X11_readOrder_155 hh) h)
  · exact gK.tr Fg (k_X11_readOrder_155 h)
set_option maxRecDepth 100000 in
set_option maxHeartbeats 4000000 in
theorem k_X11_readOrder_85 {sh : List gb_Sh}  : ∀ (n : Nat) {g : gb_G} {y1 : Int32} {y2 : Int32} {y3 : Int32} {o : (gb_G)} (h : f_X11_readOrder_85 sh n g y1 y2 y3 = some o), gK g o := by
  intro n
  induction n with
  | zero => intro g y1 y2 y3 o h; cases h
  | succ n ih =>
    intro g y1 y2 y3 o h
    rw [f_X11_readOrder_85] at h
    have Fg : gK g g := gK.rf
    rcases gb_ite_e h with h | h
    · obtain ⟨-, h⟩ := gb_ck_e h
      obtain ⟨g5, eg5, h⟩ := gb_let_x h
      have Fg5 := gK.tr Fg (gK.pi (by omega) eg5)
      rcases gb_ite_e h with h | h
      · exact gK.tr Fg5 (k_X11_readOrder_125 h)
      · obtain ⟨r32, er32, h⟩ := gb_bd_e h
        have Fr32 := gK.tr Fg5 (k_X11_readSum er32)
        exact gK.tr Fr32 (k_X11_readOrder_125 h)
    · obtain ⟨-, h⟩ := gb_ck_e h
      obtain ⟨g35, eg35, h⟩ := gb_let_x h
      have Fg35 := gK.tr Fg (gK.pi (by omega) eg35)
      exact gK.tr Fg35 (ih h)
set_option maxRecDepth 100000 in
set_option maxHeartbeats 4000000 in
theorem k_X11_readOrder_54 {sh : List gb_Sh} {y1 : Int32} {z0 : Int32} {g : gb_G}  {o : (gb_G)} (h : f_X11_readOrder_54 sh g y1 z0 = some o) : gK g o := by
  unfold f_X11_readOrder_54 at h
  have Fg : gK g g := gK.rf
  obtain ⟨r1, er1, h⟩ := gb_bd_e h
  have Fr1 := gK.tr Fg (k_X11_must er1)
  rcases gb_ite_e h with h | h
  · obtain ⟨g3, eg3, h⟩ := gb_let_x h
    have Fg3 := gK.tr Fr1 (gK.pi (by omega) eg3)
    exact gK.tr Fg3 (k_X11_readOrder_85 _ h)
  · cases h
    exact Fr1
set_option maxRecDepth 100000 in
set_option maxHeartbeats 4000000 in
theorem k_X11_readOrder_27 {sh : List gb_Sh} {K4 : gb_G → Int32 → Int32 → Option (gb_G)} {y2 : Int32} {z0 : Int32} {g : gb_G} (hK4 : ∀ {a0 : gb_G} {a1 : Int32} {a2 : Int32} {o : (gb_G)}, K4 a0 a1 a2 = some o → gK a0 o) {o : (gb_G)} (h : f_X11_readOrder_27 sh K4 g y2 z0 = some o) : gK g o := by
  unfold f_X11_readOrder_27 at h
  have Fg : gK g g := gK.rf
  exact gK.tr Fg (hK4 h)
set_option maxRecDepth 100000 in
set_option maxHeartbeats 4000000 in
theorem k_X11_readOrder_4 {sh : List gb_Sh}  : ∀ (n : Nat) {g : gb_G} {y1 : Int32} {y2 : Int32} {o : (gb_G)} (h : f_X11_readOrder_4 sh n g y1 y2 = some o), gK g o := by
  intro n
  induction n with
  | zero => intro g y1 y2 o h; cases h
  | succ n ih =>
    intro g y1 y2 o h
    rw [f_X11_readOrder_4] at h
    have Fg : gK g g := gK.rf
    rcases gb_ite_e h with h | h
    · rcases gb_ite_e h with h | h
      · exact gK.tr Fg (k_X11_readOrder_54 h)
      · rcases gb_ite_e h with h | h
        · exact gK.tr Fg (k_X11_readOrder_54 h)
        · exact gK.tr Fg (k_X11_readOrder_54 h)
    · obtain ⟨-, h⟩ := gb_ck_e h
      obtain ⟨r37, er37, h⟩ := gb_bd_e h
      have Fr37 := gK.tr Fg (gK.fr (w_X11_isWord er37) (by first | omega | exact id) (by first | omega | exact id))
      rcases gb_ite_e h with h | h
      · exact gK.tr Fr37 (k_X11_readOrder_27 (fun hh => ih hh) h)
      · exact gK.tr Fr37 (k_X11_readOrder_27 (fun hh => ih hh) h)
set_option maxRecDepth 100000 in
set_option maxHeartbeats 4000000 in
theorem k_X11_readOrder {sh : List gb_Sh} {g : gb_G}  {o : (gb_G)} (h : f_X11_readOrder sh g = some o) : gK g o := by
  unfold f_X11_readOrder at h
  have Fg : gK g g := gK.rf
  exact gK.tr Fg (k_X11_readOrder_4 _ h)
