-- X10_weigh
noncomputable def f_X10_weigh (sh : List gb_Sh) (g : gb_G) (x1 : Int32) (x2 : Int32) : Option (gb_G × Int32) := gb_bd (f_X10_changeWeight sh g x1 x2) (fun r1 => gb_bd (f_X10_settle sh r1.1 r1.2) (fun r3 => some (r3.1, r3.2)))
set_option maxRecDepth 100000 in
set_option maxHeartbeats 4000000 in
theorem t_X10_weigh {Γ : gb_X} {sh : List gb_Sh} {x1 : Int32} {x2 : Int32} {out : gb_G × Int32} (hS : gb_S sh) {g : gb_G} (h : f_X10_weigh sh g x1 x2 = some out) : gb_C Γ M_X10_weigh 4 0 0 sh g [.ref 0, .int x1, .int x2] (gb_Ri sh out) := by
  refine gb_C.of rfl (Nat.le_of_ble_eq_true rfl) ?_
  refine gb_pick (lv' := [(0, .ref 0), (1, .int x1), (2, .int x2)]) [0, 1, 2] rfl ?_
  unfold f_X10_weigh at h
  refine gb_aload_n d_X10_weigh_0 rfl ?_
  refine gb_aload_n d_X10_weigh_1 rfl ?_
  refine gb_iload_n d_X10_weigh_2 rfl ?_
  refine gb_iload_n d_X10_weigh_3 rfl ?_
  obtain ⟨r1, e2, h⟩ := gb_bd_e h
  refine gb_cVi (As := [.int x1, .int x2]) (rest := [.ref 0]) m_X10_238 (t_X10_changeWeight (Γ := Γ) hS e2) (hS 0 _ rfl) rfl (Nat.le_of_ble_eq_true rfl) rfl rfl (Nat.le_of_ble_eq_true rfl) d_X10_weigh_4 ?_
  obtain ⟨r3, e4, h⟩ := gb_bd_e h
  refine gb_cVi (As := [.int r1.2]) (rest := []) m_X10_266 (t_X10_settle (Γ := Γ) hS e4) (hS 0 _ rfl) rfl (Nat.le_of_ble_eq_true rfl) rfl rfl (Nat.le_of_ble_eq_true rfl) d_X10_weigh_7 ?_
  cases h
  exact gb_iret d_X10_weigh_10 rfl ⟨rfl, rfl, rfl⟩
-- X10_pass
noncomputable def f_X10_pass (sh : List gb_Sh) (g : gb_G) : Option (gb_G × Int32) := gb_bd (f_X10_passMonth sh g) (fun r1 => gb_bd (f_X10_settle sh r1.1 r1.2) (fun r3 => some (r3.1, r3.2)))
set_option maxRecDepth 100000 in
set_option maxHeartbeats 4000000 in
theorem t_X10_pass {Γ : gb_X} {sh : List gb_Sh} {out : gb_G × Int32} (hS : gb_S sh) {g : gb_G} (h : f_X10_pass sh g = some out) : gb_C Γ M_X10_pass 5 0 0 sh g [.ref 0] (gb_Ri sh out) := by
  refine gb_C.of rfl (Nat.le_of_ble_eq_true rfl) ?_
  refine gb_pick (lv' := [(0, .ref 0)]) [0] rfl ?_
  unfold f_X10_pass at h
  refine gb_aload_n d_X10_pass_0 rfl ?_
  refine gb_aload_n d_X10_pass_1 rfl ?_
  obtain ⟨r1, e2, h⟩ := gb_bd_e h
  refine gb_cVi (As := []) (rest := [.ref 0]) m_X10_241 (t_X10_passMonth (Γ := Γ) hS e2) (hS 0 _ rfl) rfl (Nat.le_of_ble_eq_true rfl) rfl rfl (Nat.le_of_ble_eq_true rfl) d_X10_pass_2 ?_
  obtain ⟨r3, e4, h⟩ := gb_bd_e h
  refine gb_cVi (As := [.int r1.2]) (rest := []) m_X10_266 (t_X10_settle (Γ := Γ) hS e4) (hS 0 _ rfl) rfl (Nat.le_of_ble_eq_true rfl) rfl rfl (Nat.le_of_ble_eq_true rfl) d_X10_pass_5 ?_
  cases h
  exact gb_iret d_X10_pass_8 rfl ⟨rfl, rfl, rfl⟩
-- X10_undo
noncomputable def f_X10_undo (sh : List gb_Sh) (g : gb_G) : Option (gb_G × Int32) := if (g.1 33 0) = 0 then (gb_bd (f_X10_refuse sh g (-3)) (fun r5 => some (r5.1, r5.2))) else (gb_bd (f_X3_takeBack sh g 33 1) (fun r1 => gb_bd (f_X10_grant sh r1.1 r1.2) (fun r3 => some (r3.1, r3.2))))
set_option maxRecDepth 100000 in
set_option maxHeartbeats 4000000 in
theorem t_X10_undo {Γ : gb_X} {sh : List gb_Sh} {out : gb_G × Int32} (hS : gb_S sh) {g : gb_G} (h : f_X10_undo sh g = some out) : gb_C Γ M_X10_undo 4 0 0 sh g [.ref 0] (gb_Ri sh out) := by
  refine gb_C.of rfl (Nat.le_of_ble_eq_true rfl) ?_
  refine gb_pick (lv' := [(0, .ref 0)]) [0] rfl ?_
  unfold f_X10_undo at h
  refine gb_aload_n d_X10_undo_0 rfl ?_
  refine gb_getr (r := 33) f_X10_35 (hS 0 _ rfl) rfl d_X10_undo_1 ?_
  refine gb_geti f_X10_269 (ok_X3_33 hS).1 rfl d_X10_undo_4 ?_
  refine gb_if_ne 17 d_X10_undo_7 (by decide) (fun hc => ?_) (fun hc => ?_)
  · have h := gb_if hc h
    refine gb_aload_n d_X10_undo_17 rfl ?_
    refine gb_aload_n d_X10_undo_18 rfl ?_
    refine gb_getr (r := 33) f_X10_35 (hS 0 _ rfl) rfl d_X10_undo_19 ?_
    refine gb_aload_n d_X10_undo_22 rfl ?_
    refine gb_getr (r := 1) f_X10_14 (hS 0 _ rfl) rfl d_X10_undo_23 ?_
    obtain ⟨r1, e2, h⟩ := gb_bd_e h
    refine gb_cVi (As := [.ref 1]) (rest := [.ref 0]) m_X10_272 (t_X3_takeBack (Γ := Γ) hS (ok_X3_33 hS) (ok_X0_1 hS) e2) (ok_X3_33 hS).1 rfl (Nat.le_of_ble_eq_true rfl) rfl rfl (Nat.le_of_ble_eq_true rfl) d_X10_undo_26 ?_
    obtain ⟨r3, e4, h⟩ := gb_bd_e h
    refine gb_cVi (As := [.int r1.2]) (rest := []) m_X10_133 (t_X10_grant (Γ := Γ) hS e4) (hS 0 _ rfl) rfl (Nat.le_of_ble_eq_true rfl) rfl rfl (Nat.le_of_ble_eq_true rfl) d_X10_undo_29 ?_
    cases h
    exact gb_iret d_X10_undo_32 rfl ⟨rfl, rfl, rfl⟩
  · have h := gb_it hc h
    refine gb_aload_n d_X10_undo_10 rfl ?_
    refine gb_bipush (-3) d_X10_undo_11 rfl ?_
    obtain ⟨r5, e6, h⟩ := gb_bd_e h
    refine gb_cVi (As := [.int (-3)]) (rest := []) m_X10_119 (t_X10_refuse (Γ := Γ) hS e6) (hS 0 _ rfl) rfl (Nat.le_of_ble_eq_true rfl) rfl rfl (Nat.le_of_ble_eq_true rfl) d_X10_undo_13 ?_
    cases h
    exact gb_iret d_X10_undo_16 rfl ⟨rfl, rfl, rfl⟩
-- X10_figure
noncomputable def f_X10_figure_18 (sh : List gb_Sh) (g : gb_G)  : Option (gb_G × Int64) := some (g, (-1))
noncomputable def f_X10_figure (sh : List gb_Sh) (g : gb_G) (x1 : Int32) (x2 : Int32) : Option (gb_G × Int64) := gb_bd (f_X10_within sh g x1 0 3) (fun r1 => if r1.2 = 0 then (f_X10_figure_18 sh r1.1 ) else (gb_bd (f_X10_within sh r1.1 x2 0 1) (fun r3 => if r3.2 = 0 then (f_X10_figure_18 sh r3.1 ) else (gb_bd (f_X0_lawInForce sh r3.1 1) (fun r5 => gb_bd (f_X1_load sh r5.1 1 r5.2) (fun r7 => gb_bd (f_X1_byRule sh r7 x1) (fun r9 => gb_bd (f_X2_side sh r9 61 x2) (fun r11 => some (r11.1, r11.2)))))))))
set_option maxRecDepth 100000 in
set_option maxHeartbeats 4000000 in
theorem t_X10_figure_18 {Γ : gb_X} {sh : List gb_Sh} {out : gb_G × Int64} (hS : gb_S sh) : ∀ (g : gb_G) , f_X10_figure_18 sh g  = some out → gb_J Γ M_X10_figure 5 (gb_Rl sh out) 0 0 sh g 18 [] [] := by
  intro g  h
  unfold f_X10_figure_18 at h
  refine gb_ldc2 (-1) k_X10_276 d_X10_figure_18 ?_
  cases h
  exact gb_lret d_X10_figure_21 rfl ⟨rfl, rfl, rfl⟩
set_option maxRecDepth 100000 in
set_option maxHeartbeats 4000000 in
theorem t_X10_figure {Γ : gb_X} {sh : List gb_Sh} {x1 : Int32} {x2 : Int32} {out : gb_G × Int64} (hS : gb_S sh) {g : gb_G} (h : f_X10_figure sh g x1 x2 = some out) : gb_C Γ M_X10_figure 5 0 0 sh g [.ref 0, .int x1, .int x2] (gb_Rl sh out) := by
  refine gb_C.of rfl (Nat.le_of_ble_eq_true rfl) ?_
  refine gb_pick (lv' := [(0, .ref 0), (1, .int x1), (2, .int x2)]) [0, 1, 2] rfl ?_
  unfold f_X10_figure at h
  refine gb_iload_n d_X10_figure_0 rfl ?_
  refine gb_iconst 0 d_X10_figure_1 rfl ?_
  refine gb_iconst 3 d_X10_figure_2 rfl ?_
  obtain ⟨r1, e2, h⟩ := gb_bd_e h
  refine gb_cSi (As := [.int x1, .int 0, .int 3]) (rest := []) m_X10_115 (t_X10_within (Γ := Γ) hS e2) (Nat.le_of_ble_eq_true rfl) rfl rfl (Nat.le_of_ble_eq_true rfl) d_X10_figure_3 ?_
  refine gb_if_eq 18 d_X10_figure_6 (by decide) (fun hc => ?_) (fun hc => ?_)
  · have h := gb_it hc h
    refine gb_pick (lv' := []) [] rfl ?_
    exact t_X10_figure_18 hS  _  h
  · have h := gb_if hc h
    refine gb_iload_n d_X10_figure_9 rfl ?_
    refine gb_iconst 0 d_X10_figure_10 rfl ?_
    refine gb_iconst 1 d_X10_figure_11 rfl ?_
    obtain ⟨r3, e4, h⟩ := gb_bd_e h
    refine gb_cSi (As := [.int x2, .int 0, .int 1]) (rest := []) m_X10_115 (t_X10_within (Γ := Γ) hS e4) (Nat.le_of_ble_eq_true rfl) rfl rfl (Nat.le_of_ble_eq_true rfl) d_X10_figure_12 ?_
    refine gb_if_ne 22 d_X10_figure_15 (by decide) (fun hc => ?_) (fun hc => ?_)
    · have h := gb_if hc h
      refine gb_aload_n d_X10_figure_22 rfl ?_
      refine gb_getr (r := 57) f_X10_79 (hS 0 _ rfl) rfl d_X10_figure_23 ?_
      refine gb_aload_n d_X10_figure_26 rfl ?_
      refine gb_getr (r := 1) f_X10_14 (hS 0 _ rfl) rfl d_X10_figure_27 ?_
      refine gb_aload_n d_X10_figure_30 rfl ?_
      refine gb_getr (r := 1) f_X10_14 (hS 0 _ rfl) rfl d_X10_figure_31 ?_
      obtain ⟨r5, e6, h⟩ := gb_bd_e h
      refine gb_cVq (As := []) (rest := [.ref 1, .ref 57]) m_X10_145 (t_X0_lawInForce (Γ := Γ) hS (ok_X0_1 hS) e6) (ok_X0_1 hS).1 rfl (Nat.le_of_ble_eq_true rfl) rfl rfl (Nat.le_of_ble_eq_true rfl) d_X10_figure_34 ?_
      obtain ⟨r7, e8, h⟩ := gb_bd_e h
      refine gb_cVv (As := [.ref 1, va_rf r5.2]) (rest := []) m_X10_252 (t_X1_load (Γ := Γ) hS (ok_X0_1 hS) e8) (hS 57 _ rfl) rfl (Nat.le_of_ble_eq_true rfl) rfl rfl (Nat.le_of_ble_eq_true rfl) d_X10_figure_37 ?_
      refine gb_aload_n d_X10_figure_40 rfl ?_
      refine gb_getr (r := 57) f_X10_79 (hS 0 _ rfl) rfl d_X10_figure_41 ?_
      refine gb_iload_n d_X10_figure_44 rfl ?_
      obtain ⟨r9, e10, h⟩ := gb_bd_e h
      refine gb_cVr (As := [.int x1]) (rest := []) m_X10_278 (t_X1_byRule (Γ := Γ) hS e10) (hS 57 _ rfl) rfl (Nat.le_of_ble_eq_true rfl) rfl rfl (Nat.le_of_ble_eq_true rfl) d_X10_figure_45 ?_
      refine gb_iload_n d_X10_figure_48 rfl ?_
      obtain ⟨r11, e12, h⟩ := gb_bd_e h
      refine gb_cVl (As := [.int x2]) (rest := []) m_X10_282 (t_X2_side (Γ := Γ) hS (ok_X2_61 hS) e12) (ok_X2_61 hS) rfl (Nat.le_of_ble_eq_true rfl) rfl rfl (Nat.le_of_ble_eq_true rfl) d_X10_figure_49 ?_
      cases h
      exact gb_lret d_X10_figure_52 rfl ⟨rfl, rfl, rfl⟩
    · have h := gb_it hc h
      refine gb_pick (lv' := []) [] rfl ?_
      exact t_X10_figure_18 hS  _  h
-- X10_turned
noncomputable def f_X10_turned_18 (sh : List gb_Sh) (g : gb_G)  : Option (gb_G × Int64) := some (g, (-1))
noncomputable def f_X10_turned (sh : List gb_Sh) (g : gb_G) (x1 : Int32) (x2 : Int32) : Option (gb_G × Int64) := gb_bd (f_X10_within sh g x1 0 3) (fun r1 => if r1.2 = 0 then (f_X10_turned_18 sh r1.1 ) else (gb_bd (f_X10_within sh r1.1 x2 0 1) (fun r3 => if r3.2 = 0 then (f_X10_turned_18 sh r3.1 ) else (gb_bd (f_X0_lawInForce sh r3.1 1) (fun r5 => gb_bd (f_X1_load sh r5.1 1 r5.2) (fun r7 => gb_bd (f_X1_turnedByRule sh r7 x1) (fun r9 => gb_bd (f_X2_side sh r9 61 x2) (fun r11 => some (r11.1, r11.2)))))))))
set_option maxRecDepth 100000 in
set_option maxHeartbeats 4000000 in
theorem t_X10_turned_18 {Γ : gb_X} {sh : List gb_Sh} {out : gb_G × Int64} (hS : gb_S sh) : ∀ (g : gb_G) , f_X10_turned_18 sh g  = some out → gb_J Γ M_X10_turned 5 (gb_Rl sh out) 0 0 sh g 18 [] [] := by
  intro g  h
  unfold f_X10_turned_18 at h
  refine gb_ldc2 (-1) k_X10_276 d_X10_turned_18 ?_
  cases h
  exact gb_lret d_X10_turned_21 rfl ⟨rfl, rfl, rfl⟩
set_option maxRecDepth 100000 in
set_option maxHeartbeats 4000000 in
theorem t_X10_turned {Γ : gb_X} {sh : List gb_Sh} {x1 : Int32} {x2 : Int32} {out : gb_G × Int64} (hS : gb_S sh) {g : gb_G} (h : f_X10_turned sh g x1 x2 = some out) : gb_C Γ M_X10_turned 5 0 0 sh g [.ref 0, .int x1, .int x2] (gb_Rl sh out) := by
  refine gb_C.of rfl (Nat.le_of_ble_eq_true rfl) ?_
  refine gb_pick (lv' := [(0, .ref 0), (1, .int x1), (2, .int x2)]) [0, 1, 2] rfl ?_
  unfold f_X10_turned at h
  refine gb_iload_n d_X10_turned_0 rfl ?_
  refine gb_iconst 0 d_X10_turned_1 rfl ?_
  refine gb_iconst 3 d_X10_turned_2 rfl ?_
  obtain ⟨r1, e2, h⟩ := gb_bd_e h
  refine gb_cSi (As := [.int x1, .int 0, .int 3]) (rest := []) m_X10_115 (t_X10_within (Γ := Γ) hS e2) (Nat.le_of_ble_eq_true rfl) rfl rfl (Nat.le_of_ble_eq_true rfl) d_X10_turned_3 ?_
  refine gb_if_eq 18 d_X10_turned_6 (by decide) (fun hc => ?_) (fun hc => ?_)
  · have h := gb_it hc h
    refine gb_pick (lv' := []) [] rfl ?_
    exact t_X10_turned_18 hS  _  h
  · have h := gb_if hc h
    refine gb_iload_n d_X10_turned_9 rfl ?_
    refine gb_iconst 0 d_X10_turned_10 rfl ?_
    refine gb_iconst 1 d_X10_turned_11 rfl ?_
    obtain ⟨r3, e4, h⟩ := gb_bd_e h
    refine gb_cSi (As := [.int x2, .int 0, .int 1]) (rest := []) m_X10_115 (t_X10_within (Γ := Γ) hS e4) (Nat.le_of_ble_eq_true rfl) rfl rfl (Nat.le_of_ble_eq_true rfl) d_X10_turned_12 ?_
    refine gb_if_ne 22 d_X10_turned_15 (by decide) (fun hc => ?_) (fun hc => ?_)
    · have h := gb_if hc h
      refine gb_aload_n d_X10_turned_22 rfl ?_
      refine gb_getr (r := 57) f_X10_79 (hS 0 _ rfl) rfl d_X10_turned_23 ?_
      refine gb_aload_n d_X10_turned_26 rfl ?_
      refine gb_getr (r := 1) f_X10_14 (hS 0 _ rfl) rfl d_X10_turned_27 ?_
      refine gb_aload_n d_X10_turned_30 rfl ?_
      refine gb_getr (r := 1) f_X10_14 (hS 0 _ rfl) rfl d_X10_turned_31 ?_
      obtain ⟨r5, e6, h⟩ := gb_bd_e h
      refine gb_cVq (As := []) (rest := [.ref 1, .ref 57]) m_X10_145 (t_X0_lawInForce (Γ := Γ) hS (ok_X0_1 hS) e6) (ok_X0_1 hS).1 rfl (Nat.le_of_ble_eq_true rfl) rfl rfl (Nat.le_of_ble_eq_true rfl) d_X10_turned_34 ?_
      obtain ⟨r7, e8, h⟩ := gb_bd_e h
      refine gb_cVv (As := [.ref 1, va_rf r5.2]) (rest := []) m_X10_252 (t_X1_load (Γ := Γ) hS (ok_X0_1 hS) e8) (hS 57 _ rfl) rfl (Nat.le_of_ble_eq_true rfl) rfl rfl (Nat.le_of_ble_eq_true rfl) d_X10_turned_37 ?_
      refine gb_aload_n d_X10_turned_40 rfl ?_
      refine gb_getr (r := 57) f_X10_79 (hS 0 _ rfl) rfl d_X10_turned_41 ?_
      refine gb_iload_n d_X10_turned_44 rfl ?_
      obtain ⟨r9, e10, h⟩ := gb_bd_e h
      refine gb_cVr (As := [.int x1]) (rest := []) m_X10_288 (t_X1_turnedByRule (Γ := Γ) hS e10) (hS 57 _ rfl) rfl (Nat.le_of_ble_eq_true rfl) rfl rfl (Nat.le_of_ble_eq_true rfl) d_X10_turned_45 ?_
      refine gb_iload_n d_X10_turned_48 rfl ?_
      obtain ⟨r11, e12, h⟩ := gb_bd_e h
      refine gb_cVl (As := [.int x2]) (rest := []) m_X10_282 (t_X2_side (Γ := Γ) hS (ok_X2_61 hS) e12) (ok_X2_61 hS) rfl (Nat.le_of_ble_eq_true rfl) rfl rfl (Nat.le_of_ble_eq_true rfl) d_X10_turned_49 ?_
      cases h
      exact gb_lret d_X10_turned_52 rfl ⟨rfl, rfl, rfl⟩
    · have h := gb_it hc h
      refine gb_pick (lv' := []) [] rfl ?_
      exact t_X10_turned_18 hS  _  h
-- X10_pension
noncomputable def f_X10_pension (sh : List gb_Sh) (g : gb_G) : Option (gb_G × Int32) := gb_bd (f_X0_lawInForce sh g 1) (fun r1 => gb_bd (f_X1_load sh r1.1 1 r1.2) (fun r3 => gb_bd (f_X1_hundredths sh r3) (fun r5 => some (r5.1, r5.2))))
set_option maxRecDepth 100000 in
set_option maxHeartbeats 4000000 in
theorem t_X10_pension {Γ : gb_X} {sh : List gb_Sh} {out : gb_G × Int32} (hS : gb_S sh) {g : gb_G} (h : f_X10_pension sh g = some out) : gb_C Γ M_X10_pension 4 0 0 sh g [.ref 0] (gb_Ri sh out) := by
  refine gb_C.of rfl (Nat.le_of_ble_eq_true rfl) ?_
  refine gb_pick (lv' := [(0, .ref 0)]) [0] rfl ?_
  unfold f_X10_pension at h
  refine gb_aload_n d_X10_pension_0 rfl ?_
  refine gb_getr (r := 57) f_X10_79 (hS 0 _ rfl) rfl d_X10_pension_1 ?_
  refine gb_aload_n d_X10_pension_4 rfl ?_
  refine gb_getr (r := 1) f_X10_14 (hS 0 _ rfl) rfl d_X10_pension_5 ?_
  refine gb_aload_n d_X10_pension_8 rfl ?_
  refine gb_getr (r := 1) f_X10_14 (hS 0 _ rfl) rfl d_X10_pension_9 ?_
  obtain ⟨r1, e2, h⟩ := gb_bd_e h
  refine gb_cVq (As := []) (rest := [.ref 1, .ref 57]) m_X10_145 (t_X0_lawInForce (Γ := Γ) hS (ok_X0_1 hS) e2) (ok_X0_1 hS).1 rfl (Nat.le_of_ble_eq_true rfl) rfl rfl (Nat.le_of_ble_eq_true rfl) d_X10_pension_12 ?_
  obtain ⟨r3, e4, h⟩ := gb_bd_e h
  refine gb_cVv (As := [.ref 1, va_rf r1.2]) (rest := []) m_X10_252 (t_X1_load (Γ := Γ) hS (ok_X0_1 hS) e4) (hS 57 _ rfl) rfl (Nat.le_of_ble_eq_true rfl) rfl rfl (Nat.le_of_ble_eq_true rfl) d_X10_pension_15 ?_
  refine gb_aload_n d_X10_pension_18 rfl ?_
  refine gb_getr (r := 57) f_X10_79 (hS 0 _ rfl) rfl d_X10_pension_19 ?_
  obtain ⟨r5, e6, h⟩ := gb_bd_e h
  refine gb_cVi (As := []) (rest := []) m_X10_256 (t_X1_hundredths (Γ := Γ) hS e6) (hS 57 _ rfl) rfl (Nat.le_of_ble_eq_true rfl) rfl rfl (Nat.le_of_ble_eq_true rfl) d_X10_pension_22 ?_
  cases h
  exact gb_iret d_X10_pension_25 rfl ⟨rfl, rfl, rfl⟩
-- X10_glad
noncomputable def f_X10_glad (sh : List gb_Sh) (g : gb_G) (x1 : Int32) (x2 : Int32) : Option (gb_G × Int32) := gb_bd (f_X10_within sh g x1 0 99) (fun r1 => if r1.2 = 0 then (some (r1.1, (-1))) else (gb_bd (f_X10_within sh r1.1 x2 0 (r1.1.1 1 0)) (fun r3 => if r3.2 = 0 then (some (r3.1, (-1))) else (gb_bd (f_X6_cheapest sh r3.1 1 x1) (fun r5 => if r5.2 = (-1) then (some (r5.1, r5.2)) else (if x2 = 0 then (some (r5.1, r5.2)) else (gb_bd (f_X6_amountOf sh r5.1 (x2 - 1)) (fun r7 => some (r7.1, r7.2)))))))))
set_option maxRecDepth 100000 in
set_option maxHeartbeats 4000000 in
theorem t_X10_glad {Γ : gb_X} {sh : List gb_Sh} {x1 : Int32} {x2 : Int32} {out : gb_G × Int32} (hS : gb_S sh) {g : gb_G} (h : f_X10_glad sh g x1 x2 = some out) : gb_C Γ M_X10_glad 5 0 0 sh g [.ref 0, .int x1, .int x2] (gb_Ri sh out) := by
  refine gb_C.of rfl (Nat.le_of_ble_eq_true rfl) ?_
  refine gb_pick (lv' := [(0, .ref 0), (1, .int x1), (2, .int x2)]) [0, 1, 2] rfl ?_
  unfold f_X10_glad at h
  refine gb_iload_n d_X10_glad_0 rfl ?_
  refine gb_iconst 0 d_X10_glad_1 rfl ?_
  refine gb_bipush 99 d_X10_glad_2 rfl ?_
  obtain ⟨r1, e2, h⟩ := gb_bd_e h
  refine gb_cSi (As := [.int x1, .int 0, .int 99]) (rest := []) m_X10_115 (t_X10_within (Γ := Γ) hS e2) (Nat.le_of_ble_eq_true rfl) rfl rfl (Nat.le_of_ble_eq_true rfl) d_X10_glad_4 ?_
  refine gb_if_eq 25 d_X10_glad_7 (by decide) (fun hc => ?_) (fun hc => ?_)
  · have h := gb_it hc h
    refine gb_iconst (-1) d_X10_glad_25 rfl ?_
    cases h
    exact gb_iret d_X10_glad_26 rfl ⟨rfl, rfl, rfl⟩
  · have h := gb_if hc h
    refine gb_iload_n d_X10_glad_10 rfl ?_
    refine gb_iconst 0 d_X10_glad_11 rfl ?_
    refine gb_aload_n d_X10_glad_12 rfl ?_
    refine gb_getr (r := 1) f_X10_14 (hS 0 _ rfl) rfl d_X10_glad_13 ?_
    refine gb_geti f_X10_123 (ok_X0_1 hS).1 rfl d_X10_glad_16 ?_
    obtain ⟨r3, e4, h⟩ := gb_bd_e h
    refine gb_cSi (As := [.int x2, .int 0, .int (r1.1.1 1 0)]) (rest := []) m_X10_115 (t_X10_within (Γ := Γ) hS e4) (Nat.le_of_ble_eq_true rfl) rfl rfl (Nat.le_of_ble_eq_true rfl) d_X10_glad_19 ?_
    refine gb_if_ne 27 d_X10_glad_22 (by decide) (fun hc => ?_) (fun hc => ?_)
    · have h := gb_if hc h
      refine gb_aload_n d_X10_glad_27 rfl ?_
      refine gb_getr (r := 63) f_X10_88 (hS 0 _ rfl) rfl d_X10_glad_28 ?_
      refine gb_aload_n d_X10_glad_31 rfl ?_
      refine gb_getr (r := 1) f_X10_14 (hS 0 _ rfl) rfl d_X10_glad_32 ?_
      refine gb_iload_n d_X10_glad_35 rfl ?_
      obtain ⟨r5, e6, h⟩ := gb_bd_e h
      refine gb_cVi (As := [.ref 1, .int x1]) (rest := []) m_X10_291 (t_X6_cheapest (Γ := Γ) hS (ok_X0_1 hS) e6) (hS 63 _ rfl) rfl (Nat.le_of_ble_eq_true rfl) rfl rfl (Nat.le_of_ble_eq_true rfl) d_X10_glad_36 ?_
      refine gb_istore_n [(3, .int r5.2), (0, .ref 0), (1, .int x1), (2, .int x2)] d_X10_glad_39 (Nat.le_of_ble_eq_true rfl) rfl ?_
      refine gb_iload_n d_X10_glad_40 rfl ?_
      refine gb_iconst (-1) d_X10_glad_41 rfl ?_
      refine gb_icmp_eq 49 d_X10_glad_42 (by decide) (fun hc => ?_) (fun hc => ?_)
      · have h := gb_it hc h
        refine gb_iload_n d_X10_glad_49 rfl ?_
        refine gb_goto 63 d_X10_glad_50 (by decide) ?_
        cases h
        exact gb_iret d_X10_glad_63 rfl ⟨rfl, rfl, rfl⟩
      · have h := gb_if hc h
        refine gb_iload_n d_X10_glad_45 rfl ?_
        refine gb_if_ne 53 d_X10_glad_46 (by decide) (fun hc => ?_) (fun hc => ?_)
        · have h := gb_if hc h
          refine gb_aload_n d_X10_glad_53 rfl ?_
          refine gb_getr (r := 63) f_X10_88 (hS 0 _ rfl) rfl d_X10_glad_54 ?_
          refine gb_iload_n d_X10_glad_57 rfl ?_
          refine gb_iconst 1 d_X10_glad_58 rfl ?_
          refine gb_isub d_X10_glad_59 ?_
          obtain ⟨r7, e8, h⟩ := gb_bd_e h
          refine gb_cVi (As := [.int (x2 - 1)]) (rest := []) m_X10_295 (t_X6_amountOf (Γ := Γ) hS e8) (hS 63 _ rfl) rfl (Nat.le_of_ble_eq_true rfl) rfl rfl (Nat.le_of_ble_eq_true rfl) d_X10_glad_60 ?_
          cases h
          exact gb_iret d_X10_glad_63 rfl ⟨rfl, rfl, rfl⟩
        · have h := gb_it hc h
          refine gb_iload_n d_X10_glad_49 rfl ?_
          refine gb_goto 63 d_X10_glad_50 (by decide) ?_
          cases h
          exact gb_iret d_X10_glad_63 rfl ⟨rfl, rfl, rfl⟩
    · have h := gb_it hc h
      refine gb_iconst (-1) d_X10_glad_25 rfl ?_
      cases h
      exact gb_iret d_X10_glad_26 rfl ⟨rfl, rfl, rfl⟩
-- X10_round
noncomputable def f_X10_round (sh : List gb_Sh) (g : gb_G) (x1 : Int32) (x2 : Int32) : Option (gb_G × Int32) := gb_bd (f_X10_within sh g x1 0 24) (fun r1 => if r1.2 = 0 then (some (r1.1, (-1))) else (gb_bd (f_X6_walk sh r1.1 1 x1) (fun r3 => if x2 = (-1) then (some (r3.1, r3.2)) else (gb_bd (f_X6_walkedTo sh r3.1 x2) (fun r5 => some (r5.1, r5.2))))))
set_option maxRecDepth 100000 in
set_option maxHeartbeats 4000000 in
theorem t_X10_round {Γ : gb_X} {sh : List gb_Sh} {x1 : Int32} {x2 : Int32} {out : gb_G × Int32} (hS : gb_S sh) {g : gb_G} (h : f_X10_round sh g x1 x2 = some out) : gb_C Γ M_X10_round 6 0 0 sh g [.ref 0, .int x1, .int x2] (gb_Ri sh out) := by
  refine gb_C.of rfl (Nat.le_of_ble_eq_true rfl) ?_
  refine gb_pick (lv' := [(0, .ref 0), (1, .int x1), (2, .int x2)]) [0, 1, 2] rfl ?_
  unfold f_X10_round at h
  refine gb_iload_n d_X10_round_0 rfl ?_
  refine gb_iconst 0 d_X10_round_1 rfl ?_
  refine gb_bipush 24 d_X10_round_2 rfl ?_
  obtain ⟨r1, e2, h⟩ := gb_bd_e h
  refine gb_cSi (As := [.int x1, .int 0, .int 24]) (rest := []) m_X10_115 (t_X10_within (Γ := Γ) hS e2) (Nat.le_of_ble_eq_true rfl) rfl rfl (Nat.le_of_ble_eq_true rfl) d_X10_round_4 ?_
  refine gb_if_ne 12 d_X10_round_7 (by decide) (fun hc => ?_) (fun hc => ?_)
  · have h := gb_if hc h
    refine gb_aload_n d_X10_round_12 rfl ?_
    refine gb_getr (r := 63) f_X10_88 (hS 0 _ rfl) rfl d_X10_round_13 ?_
    refine gb_aload_n d_X10_round_16 rfl ?_
    refine gb_getr (r := 1) f_X10_14 (hS 0 _ rfl) rfl d_X10_round_17 ?_
    refine gb_iload_n d_X10_round_20 rfl ?_
    obtain ⟨r3, e4, h⟩ := gb_bd_e h
    refine gb_cVi (As := [.ref 1, .int x1]) (rest := []) m_X10_298 (t_X6_walk (Γ := Γ) hS (ok_X0_1 hS) e4) (hS 63 _ rfl) rfl (Nat.le_of_ble_eq_true rfl) rfl rfl (Nat.le_of_ble_eq_true rfl) d_X10_round_21 ?_
    refine gb_istore_n [(3, .int r3.2), (0, .ref 0), (1, .int x1), (2, .int x2)] d_X10_round_24 (Nat.le_of_ble_eq_true rfl) rfl ?_
    refine gb_iload_n d_X10_round_25 rfl ?_
    refine gb_iconst (-1) d_X10_round_26 rfl ?_
    refine gb_icmp_ne 34 d_X10_round_27 (by decide) (fun hc => ?_) (fun hc => ?_)
    · have h := gb_if hc h
      refine gb_aload_n d_X10_round_34 rfl ?_
      refine gb_getr (r := 63) f_X10_88 (hS 0 _ rfl) rfl d_X10_round_35 ?_
      refine gb_iload_n d_X10_round_38 rfl ?_
      obtain ⟨r5, e6, h⟩ := gb_bd_e h
      refine gb_cVi (As := [.int x2]) (rest := []) m_X10_301 (t_X6_walkedTo (Γ := Γ) hS e6) (hS 63 _ rfl) rfl (Nat.le_of_ble_eq_true rfl) rfl rfl (Nat.le_of_ble_eq_true rfl) d_X10_round_39 ?_
      cases h
      exact gb_iret d_X10_round_42 rfl ⟨rfl, rfl, rfl⟩
    · have h := gb_it hc h
      refine gb_iload_n d_X10_round_30 rfl ?_
      refine gb_goto 42 d_X10_round_31 (by decide) ?_
      cases h
      exact gb_iret d_X10_round_42 rfl ⟨rfl, rfl, rfl⟩
  · have h := gb_it hc h
    refine gb_iconst (-1) d_X10_round_10 rfl ?_
    cases h
    exact gb_iret d_X10_round_11 rfl ⟨rfl, rfl, rfl⟩
-- X10_spent
noncomputable def f_X10_spent (sh : List gb_Sh) (g : gb_G) (x1 : Int32) (x2 : Int32) (x3 : Int32) : Option (gb_G × Int32) := gb_bd (f_X10_within sh g x1 0 99) (fun r1 => if r1.2 = 0 then (some (r1.1, (-1))) else (gb_bd (f_X10_within sh r1.1 x2 0 99) (fun r3 => if r3.2 = 0 then (some (r3.1, (-1))) else (gb_bd (f_X6_seekSets sh r3.1 1 x1 x2) (fun r5 => if x3 = (-1) then (some (r5.1, r5.2)) else (gb_bd (f_X6_setAt sh r5.1 x3) (fun r7 => some (r7.1, r7.2))))))))
set_option maxRecDepth 100000 in
set_option maxHeartbeats 4000000 in
theorem t_X10_spent {Γ : gb_X} {sh : List gb_Sh} {x1 : Int32} {x2 : Int32} {x3 : Int32} {out : gb_G × Int32} (hS : gb_S sh) {g : gb_G} (h : f_X10_spent sh g x1 x2 x3 = some out) : gb_C Γ M_X10_spent 5 0 0 sh g [.ref 0, .int x1, .int x2, .int x3] (gb_Ri sh out) := by
  refine gb_C.of rfl (Nat.le_of_ble_eq_true rfl) ?_
  refine gb_pick (lv' := [(0, .ref 0), (1, .int x1), (2, .int x2), (3, .int x3)]) [0, 1, 2, 3] rfl ?_
  unfold f_X10_spent at h
  refine gb_iload_n d_X10_spent_0 rfl ?_
  refine gb_iconst 0 d_X10_spent_1 rfl ?_
  refine gb_bipush 99 d_X10_spent_2 rfl ?_
  obtain ⟨r1, e2, h⟩ := gb_bd_e h
  refine gb_cSi (As := [.int x1, .int 0, .int 99]) (rest := []) m_X10_115 (t_X10_within (Γ := Γ) hS e2) (Nat.le_of_ble_eq_true rfl) rfl rfl (Nat.le_of_ble_eq_true rfl) d_X10_spent_4 ?_
  refine gb_if_eq 20 d_X10_spent_7 (by decide) (fun hc => ?_) (fun hc => ?_)
  · have h := gb_it hc h
    refine gb_iconst (-1) d_X10_spent_20 rfl ?_
    cases h
    exact gb_iret d_X10_spent_21 rfl ⟨rfl, rfl, rfl⟩
  · have h := gb_if hc h
    refine gb_iload_n d_X10_spent_10 rfl ?_
    refine gb_iconst 0 d_X10_spent_11 rfl ?_
    refine gb_bipush 99 d_X10_spent_12 rfl ?_
    obtain ⟨r3, e4, h⟩ := gb_bd_e h
    refine gb_cSi (As := [.int x2, .int 0, .int 99]) (rest := []) m_X10_115 (t_X10_within (Γ := Γ) hS e4) (Nat.le_of_ble_eq_true rfl) rfl rfl (Nat.le_of_ble_eq_true rfl) d_X10_spent_14 ?_
    refine gb_if_ne 22 d_X10_spent_17 (by decide) (fun hc => ?_) (fun hc => ?_)
    · have h := gb_if hc h
      refine gb_aload_n d_X10_spent_22 rfl ?_
      refine gb_getr (r := 63) f_X10_88 (hS 0 _ rfl) rfl d_X10_spent_23 ?_
      refine gb_aload_n d_X10_spent_26 rfl ?_
      refine gb_getr (r := 1) f_X10_14 (hS 0 _ rfl) rfl d_X10_spent_27 ?_
      refine gb_iload_n d_X10_spent_30 rfl ?_
      refine gb_iload_n d_X10_spent_31 rfl ?_
      obtain ⟨r5, e6, h⟩ := gb_bd_e h
      refine gb_cVi (As := [.ref 1, .int x1, .int x2]) (rest := []) m_X10_304 (t_X6_seekSets (Γ := Γ) hS (ok_X0_1 hS) e6) (hS 63 _ rfl) rfl (Nat.le_of_ble_eq_true rfl) rfl rfl (Nat.le_of_ble_eq_true rfl) d_X10_spent_32 ?_
      refine gb_istore [(4, .int r5.2), (0, .ref 0), (1, .int x1), (2, .int x2), (3, .int x3)] d_X10_spent_35 (Nat.le_of_ble_eq_true rfl) rfl ?_
      refine gb_iload_n d_X10_spent_37 rfl ?_
      refine gb_iconst (-1) d_X10_spent_38 rfl ?_
      refine gb_icmp_ne 47 d_X10_spent_39 (by decide) (fun hc => ?_) (fun hc => ?_)
      · have h := gb_if hc h
        refine gb_aload_n d_X10_spent_47 rfl ?_
        refine gb_getr (r := 63) f_X10_88 (hS 0 _ rfl) rfl d_X10_spent_48 ?_
        refine gb_iload_n d_X10_spent_51 rfl ?_
        obtain ⟨r7, e8, h⟩ := gb_bd_e h
        refine gb_cVi (As := [.int x3]) (rest := []) m_X10_308 (t_X6_setAt (Γ := Γ) hS e8) (hS 63 _ rfl) rfl (Nat.le_of_ble_eq_true rfl) rfl rfl (Nat.le_of_ble_eq_true rfl) d_X10_spent_52 ?_
        cases h
        exact gb_iret d_X10_spent_55 rfl ⟨rfl, rfl, rfl⟩
      · have h := gb_it hc h
        refine gb_iload d_X10_spent_42 rfl ?_
        refine gb_goto 55 d_X10_spent_44 (by decide) ?_
        cases h
        exact gb_iret d_X10_spent_55 rfl ⟨rfl, rfl, rfl⟩
    · have h := gb_it hc h
      refine gb_iconst (-1) d_X10_spent_20 rfl ?_
      cases h
      exact gb_iret d_X10_spent_21 rfl ⟨rfl, rfl, rfl⟩
-- X10_ask
noncomputable def f_X10_ask_122 (sh : List gb_Sh) (g : gb_G) (y3 : Int32) (y5 : Int32) (y6 : Int32) : Option (gb_G × Int32) := if y3 = 0 then (some (g, y5)) else (some (g, y6))
noncomputable def f_X10_ask_108 (sh : List gb_Sh) (K116 : gb_G → Int32 → Int32 → Int32 → Int32 → Int32 → Option (gb_G × Int32)) (g : gb_G) (y3 : Int32) (y4 : Int32) (y7 : Int32) (y9 : Int32) : Option (gb_G × Int32) := K116 g y3 y4 y7 y9 y7
noncomputable def f_X10_ask_116 (sh : List gb_Sh) (K55 : gb_G → Int32 → Int32 → Int32 → Int32 → Int32 → Option (gb_G × Int32)) (g : gb_G) (y3 : Int32) (y4 : Int32) (y5 : Int32) (y6 : Int32) (y7 : Int32) : Option (gb_G × Int32) := K55 g y3 y4 y5 y6 (y7 + 1)
noncomputable def f_X10_ask_55 (sh : List gb_Sh) : Nat → gb_G → Int32 → Int32 → Int32 → Int32 → Int32 → Option (gb_G × Int32)
  | 0, _, _, _, _, _, _ => none
  | n + 1, g, y3, y4, y5, y6, y7 => if (g.1 1 0) ≤ y7 then (f_X10_ask_122 sh g y3 y5 y6) else (if y4 ≤ 0 then (f_X10_ask_122 sh g y3 y5 y6) else (gb_bd (f_X6_setsWith sh g y7) (fun r9 => gb_bd (f_J9_max_7cf53 sh r9.1 r9.2 (y4 - r9.2)) (fun r11 => if y5 = (-1) then (f_X10_ask_108 sh (fun w w0 w1 w2 w3 w4 => f_X10_ask_116 sh (fun w w0 w1 w2 w3 w4 => f_X10_ask_55 sh n w w0 w1 w2 w3 w4) w w0 w1 w2 w3 w4) r11.1 y3 y4 y7 r11.2) else (if y6 ≤ r11.2 then (f_X10_ask_116 sh (fun w w0 w1 w2 w3 w4 => f_X10_ask_55 sh n w w0 w1 w2 w3 w4) r11.1 y3 y4 y5 y6 y7) else (f_X10_ask_108 sh (fun w w0 w1 w2 w3 w4 => f_X10_ask_116 sh (fun w w0 w1 w2 w3 w4 => f_X10_ask_55 sh n w w0 w1 w2 w3 w4) w w0 w1 w2 w3 w4) r11.1 y3 y4 y7 r11.2))))))
noncomputable def f_X10_ask (sh : List gb_Sh) (g : gb_G) (x1 : Int32) (x2 : Int32) (x3 : Int32) : Option (gb_G × Int32) := gb_bd (f_X10_within sh g x1 0 99) (fun r1 => if r1.2 = 0 then (some (r1.1, (-1))) else (gb_bd (f_X10_within sh r1.1 x2 0 99) (fun r3 => if r3.2 = 0 then (some (r3.1, (-1))) else (gb_bd (f_X10_within sh r3.1 x3 0 1) (fun r5 => if r5.2 = 0 then (some (r5.1, (-1))) else (gb_bd (f_X6_seekSets sh r5.1 1 x1 x2) (fun r7 => f_X10_ask_55 sh gb_N r7.1 x3 r7.2 (-1) (-1) 0)))))))
set_option maxRecDepth 100000 in
set_option maxHeartbeats 4000000 in
theorem t_X10_ask_122 {Γ : gb_X} {sh : List gb_Sh} {out : gb_G × Int32} (hS : gb_S sh) : ∀ (g : gb_G) (y3 : Int32) (y5 : Int32) (y6 : Int32), f_X10_ask_122 sh g y3 y5 y6 = some out → gb_J Γ M_X10_ask 5 (gb_Ri sh out) 0 0 sh g 122 [(3, .int y3), (5, .int y5), (6, .int y6)] [] := by
  intro g y3 y5 y6 h
  unfold f_X10_ask_122 at h
  refine gb_iload_n d_X10_ask_122 rfl ?_
  refine gb_if_ne 131 d_X10_ask_123 (by decide) (fun hc => ?_) (fun hc => ?_)
  · have h := gb_if hc h
    refine gb_iload d_X10_ask_131 rfl ?_
    cases h
    exact gb_iret d_X10_ask_133 rfl ⟨rfl, rfl, rfl⟩
  · have h := gb_it hc h
    refine gb_iload d_X10_ask_126 rfl ?_
    refine gb_goto 133 d_X10_ask_128 (by decide) ?_
    cases h
    exact gb_iret d_X10_ask_133 rfl ⟨rfl, rfl, rfl⟩
set_option maxRecDepth 100000 in
set_option maxHeartbeats 4000000 in
theorem t_X10_ask_108 {Γ : gb_X} {sh : List gb_Sh} {out : gb_G × Int32} (hS : gb_S sh) {K116 : gb_G → Int32 → Int32 → Int32 → Int32 → Int32 → Option (gb_G × Int32)} (hK116 : ∀ (g : gb_G) (y3 : Int32) (y4 : Int32) (y5 : Int32) (y6 : Int32) (y7 : Int32), K116 g y3 y4 y5 y6 y7 = some out → gb_J Γ M_X10_ask 5 (gb_Ri sh out) 0 0 sh g 116 [(0, .ref 0), (3, .int y3), (4, .int y4), (5, .int y5), (6, .int y6), (7, .int y7)] []) : ∀ (g : gb_G) (y3 : Int32) (y4 : Int32) (y7 : Int32) (y9 : Int32), f_X10_ask_108 sh K116 g y3 y4 y7 y9 = some out → gb_J Γ M_X10_ask 5 (gb_Ri sh out) 0 0 sh g 108 [(0, .ref 0), (3, .int y3), (4, .int y4), (7, .int y7), (9, .int y9)] [] := by
  intro g y3 y4 y7 y9 h
  unfold f_X10_ask_108 at h
  refine gb_iload d_X10_ask_108 rfl ?_
  refine gb_istore [(5, .int y7), (0, .ref 0), (3, .int y3), (4, .int y4), (7, .int y7), (9, .int y9)] d_X10_ask_110 (Nat.le_of_ble_eq_true rfl) rfl ?_
  refine gb_iload d_X10_ask_112 rfl ?_
  refine gb_istore [(6, .int y9), (5, .int y7), (0, .ref 0), (3, .int y3), (4, .int y4), (7, .int y7), (9, .int y9)] d_X10_ask_114 (Nat.le_of_ble_eq_true rfl) rfl ?_
  refine gb_pick (lv' := [(0, .ref 0), (3, .int y3), (4, .int y4), (5, .int y7), (6, .int y9), (7, .int y7)]) [2, 3, 4, 1, 0, 5] rfl ?_
  exact hK116 _ y3 y4 y7 y9 y7 h
set_option maxRecDepth 100000 in
set_option maxHeartbeats 4000000 in
theorem t_X10_ask_116 {Γ : gb_X} {sh : List gb_Sh} {out : gb_G × Int32} (hS : gb_S sh) {K55 : gb_G → Int32 → Int32 → Int32 → Int32 → Int32 → Option (gb_G × Int32)} (hK55 : ∀ (g : gb_G) (y3 : Int32) (y4 : Int32) (y5 : Int32) (y6 : Int32) (y7 : Int32), K55 g y3 y4 y5 y6 y7 = some out → gb_J Γ M_X10_ask 5 (gb_Ri sh out) 0 0 sh g 55 [(0, .ref 0), (3, .int y3), (4, .int y4), (5, .int y5), (6, .int y6), (7, .int y7)] []) : ∀ (g : gb_G) (y3 : Int32) (y4 : Int32) (y5 : Int32) (y6 : Int32) (y7 : Int32), f_X10_ask_116 sh K55 g y3 y4 y5 y6 y7 = some out → gb_J Γ M_X10_ask 5 (gb_Ri sh out) 0 0 sh g 116 [(0, .ref 0), (3, .int y3), (4, .int y4), (5, .int y5), (6, .int y6), (7, .int y7)] [] := by
  intro g y3 y4 y5 y6 y7 h
  unfold f_X10_ask_116 at h
  refine gb_iinc (y7 + 1) [(7, .int (y7 + 1)), (0, .ref 0), (3, .int y3), (4, .int y4), (5, .int y5), (6, .int y6)] d_X10_ask_116 (Nat.le_of_ble_eq_true rfl) rfl rfl rfl ?_
  refine gb_goto 55 d_X10_ask_119 (by decide) ?_
  refine gb_pick (lv' := [(0, .ref 0), (3, .int y3), (4, .int y4), (5, .int y5), (6, .int y6), (7, .int (y7 + 1))]) [1, 2, 3, 4, 5, 0] rfl ?_
  exact hK55 _ y3 y4 y5 y6 (y7 + 1) h
set_option maxRecDepth 100000 in
set_option maxHeartbeats 4000000 in
theorem t_X10_ask_55 {Γ : gb_X} {sh : List gb_Sh} {out : gb_G × Int32} (hS : gb_S sh) : ∀ (n : Nat) (g : gb_G) (y3 : Int32) (y4 : Int32) (y5 : Int32) (y6 : Int32) (y7 : Int32), f_X10_ask_55 sh n g y3 y4 y5 y6 y7 = some out → gb_J Γ M_X10_ask 5 (gb_Ri sh out) 0 0 sh g 55 [(0, .ref 0), (3, .int y3), (4, .int y4), (5, .int y5), (6, .int y6), (7, .int y7)] [] := by
  intro n
  induction n with
  | zero => intro g y3 y4 y5 y6 y7 h; cases h
  | succ n ih =>
    intro g y3 y4 y5 y6 y7 h
    rw [f_X10_ask_55] at h
    refine gb_iload d_X10_ask_55 rfl ?_
    refine gb_aload_n d_X10_ask_57 rfl ?_
    refine gb_getr (r := 1) f_X10_14 (hS 0 _ rfl) rfl d_X10_ask_58 ?_
    refine gb_geti f_X10_123 (ok_X0_1 hS).1 rfl d_X10_ask_61 ?_
    refine gb_icmp_ge 122 d_X10_ask_64 (by decide) (fun hc => ?_) (fun hc => ?_)
    · have h := gb_it hc h
      refine gb_pick (lv' := [(3, .int y3), (5, .int y5), (6, .int y6)]) [1, 3, 4] rfl ?_
      exact t_X10_ask_122 hS  _ y3 y5 y6 h
    · have h := gb_if hc h
      refine gb_iload d_X10_ask_67 rfl ?_
      refine gb_if_le 122 d_X10_ask_69 (by decide) (fun hc => ?_) (fun hc => ?_)
      · have h := gb_it hc h
        refine gb_pick (lv' := [(3, .int y3), (5, .int y5), (6, .int y6)]) [1, 3, 4] rfl ?_
        exact t_X10_ask_122 hS  _ y3 y5 y6 h
      · have h := gb_if hc h
        refine gb_aload_n d_X10_ask_72 rfl ?_
        refine gb_getr (r := 63) f_X10_88 (hS 0 _ rfl) rfl d_X10_ask_73 ?_
        refine gb_iload d_X10_ask_76 rfl ?_
        obtain ⟨r9, e10, h⟩ := gb_bd_e h
        refine gb_cVi (As := [.int y7]) (rest := []) m_X10_311 (t_X6_setsWith (Γ := Γ) hS e10) (hS 63 _ rfl) rfl (Nat.le_of_ble_eq_true rfl) rfl rfl (Nat.le_of_ble_eq_true rfl) d_X10_ask_78 ?_
        refine gb_istore [(8, .int r9.2), (0, .ref 0), (3, .int y3), (4, .int y4), (5, .int y5), (6, .int y6), (7, .int y7)] d_X10_ask_81 (Nat.le_of_ble_eq_true rfl) rfl ?_
        refine gb_iload d_X10_ask_83 rfl ?_
        refine gb_iload d_X10_ask_85 rfl ?_
        refine gb_iload d_X10_ask_87 rfl ?_
        refine gb_isub d_X10_ask_89 ?_
        obtain ⟨r11, e12, h⟩ := gb_bd_e h
        refine gb_cSi (As := [.int r9.2, .int (y4 - r9.2)]) (rest := []) m_X10_314 (t_J9_max_7cf53 (Γ := Γ) hS e12) (Nat.le_of_ble_eq_true rfl) rfl rfl (Nat.le_of_ble_eq_true rfl) d_X10_ask_90 ?_
        refine gb_istore [(9, .int r11.2), (8, .int r9.2), (0, .ref 0), (3, .int y3), (4, .int y4), (5, .int y5), (6, .int y6), (7, .int y7)] d_X10_ask_93 (Nat.le_of_ble_eq_true rfl) rfl ?_
        refine gb_iload d_X10_ask_95 rfl ?_
        refine gb_iconst (-1) d_X10_ask_97 rfl ?_
        refine gb_icmp_eq 108 d_X10_ask_98 (by decide) (fun hc => ?_) (fun hc => ?_)
        · have h := gb_it hc h
          refine gb_pick (lv' := [(0, .ref 0), (3, .int y3), (4, .int y4), (7, .int y7), (9, .int r11.2)]) [2, 3, 4, 7, 0] rfl ?_
          exact t_X10_ask_108 hS (fun w w0 w1 w2 w3 w4 hw => t_X10_ask_116 hS (fun w w0 w1 w2 w3 w4 hw => ih w w0 w1 w2 w3 w4 hw) w w0 w1 w2 w3 w4 hw) _ y3 y4 y7 r11.2 h
        · have h := gb_if hc h
          refine gb_iload d_X10_ask_101 rfl ?_
          refine gb_iload d_X10_ask_103 rfl ?_
          refine gb_icmp_ge 116 d_X10_ask_105 (by decide) (fun hc => ?_) (fun hc => ?_)
          · have h := gb_it hc h
            refine gb_pick (lv' := [(0, .ref 0), (3, .int y3), (4, .int y4), (5, .int y5), (6, .int y6), (7, .int y7)]) [2, 3, 4, 5, 6, 7] rfl ?_
            exact t_X10_ask_116 hS (fun w w0 w1 w2 w3 w4 hw => ih w w0 w1 w2 w3 w4 hw) _ y3 y4 y5 y6 y7 h
          · have h := gb_if hc h
            refine gb_pick (lv' := [(0, .ref 0), (3, .int y3), (4, .int y4), (7, .int y7), (9, .int r11.2)]) [2, 3, 4, 7, 0] rfl ?_
            exact t_X10_ask_108 hS (fun w w0 w1 w2 w3 w4 hw => t_X10_ask_116 hS (fun w w0 w1 w2 w3 w4 hw => ih w w0 w1 w2 w3 w4 hw) w w0 w1 w2 w3 w4 hw) _ y3 y4 y7 r11.2 h
set_option maxRecDepth 100000 in
set_option maxHeartbeats 4000000 in
theorem t_X10_ask {Γ : gb_X} {sh : List gb_Sh} {x1 : Int32} {x2 : Int32} {x3 : Int32} {out : gb_G × Int32} (hS : gb_S sh) {g : gb_G} (h : f_X10_ask sh g x1 x2 x3 = some out) : gb_C Γ M_X10_ask 5 0 0 sh g [.ref 0, .int x1, .int x2, .int x3] (gb_Ri sh out) := by
  refine gb_C.of rfl (Nat.le_of_ble_eq_true rfl) ?_
  refine gb_pick (lv' := [(0, .ref 0), (1, .int x1), (2, .int x2), (3, .int x3)]) [0, 1, 2, 3] rfl ?_
  unfold f_X10_ask at h
  refine gb_iload_n d_X10_ask_0 rfl ?_
  refine gb_iconst 0 d_X10_ask_1 rfl ?_
  refine gb_bipush 99 d_X10_ask_2 rfl ?_
  obtain ⟨r1, e2, h⟩ := gb_bd_e h
  refine gb_cSi (As := [.int x1, .int 0, .int 99]) (rest := []) m_X10_115 (t_X10_within (Γ := Γ) hS e2) (Nat.le_of_ble_eq_true rfl) rfl rfl (Nat.le_of_ble_eq_true rfl) d_X10_ask_4 ?_
  refine gb_if_eq 29 d_X10_ask_7 (by decide) (fun hc => ?_) (fun hc => ?_)
  · have h := gb_it hc h
    refine gb_iconst (-1) d_X10_ask_29 rfl ?_
    cases h
    exact gb_iret d_X10_ask_30 rfl ⟨rfl, rfl, rfl⟩
  · have h := gb_if hc h
    refine gb_iload_n d_X10_ask_10 rfl ?_
    refine gb_iconst 0 d_X10_ask_11 rfl ?_
    refine gb_bipush 99 d_X10_ask_12 rfl ?_
    obtain ⟨r3, e4, h⟩ := gb_bd_e h
    refine gb_cSi (As := [.int x2, .int 0, .int 99]) (rest := []) m_X10_115 (t_X10_within (Γ := Γ) hS e4) (Nat.le_of_ble_eq_true rfl) rfl rfl (Nat.le_of_ble_eq_true rfl) d_X10_ask_14 ?_
    refine gb_if_eq 29 d_X10_ask_17 (by decide) (fun hc => ?_) (fun hc => ?_)
    · have h := gb_it hc h
      refine gb_iconst (-1) d_X10_ask_29 rfl ?_
      cases h
      exact gb_iret d_X10_ask_30 rfl ⟨rfl, rfl, rfl⟩
    · have h := gb_if hc h
      refine gb_iload_n d_X10_ask_20 rfl ?_
      refine gb_iconst 0 d_X10_ask_21 rfl ?_
      refine gb_iconst 1 d_X10_ask_22 rfl ?_
      obtain ⟨r5, e6, h⟩ := gb_bd_e h
      refine gb_cSi (As := [.int x3, .int 0, .int 1]) (rest := []) m_X10_115 (t_X10_within (Γ := Γ) hS e6) (Nat.le_of_ble_eq_true rfl) rfl rfl (Nat.le_of_ble_eq_true rfl) d_X10_ask_23 ?_
      refine gb_if_ne 31 d_X10_ask_26 (by decide) (fun hc => ?_) (fun hc => ?_)
      · have h := gb_if hc h
        refine gb_aload_n d_X10_ask_31 rfl ?_
        refine gb_getr (r := 63) f_X10_88 (hS 0 _ rfl) rfl d_X10_ask_32 ?_
        refine gb_aload_n d_X10_ask_35 rfl ?_
        refine gb_getr (r := 1) f_X10_14 (hS 0 _ rfl) rfl d_X10_ask_36 ?_
        refine gb_iload_n d_X10_ask_39 rfl ?_
        refine gb_iload_n d_X10_ask_40 rfl ?_
        obtain ⟨r7, e8, h⟩ := gb_bd_e h
        refine gb_cVi (As := [.ref 1, .int x1, .int x2]) (rest := []) m_X10_304 (t_X6_seekSets (Γ := Γ) hS (ok_X0_1 hS) e8) (hS 63 _ rfl) rfl (Nat.le_of_ble_eq_true rfl) rfl rfl (Nat.le_of_ble_eq_true rfl) d_X10_ask_41 ?_
        refine gb_istore [(4, .int r7.2), (0, .ref 0), (1, .int x1), (2, .int x2), (3, .int x3)] d_X10_ask_44 (Nat.le_of_ble_eq_true rfl) rfl ?_
        refine gb_iconst (-1) d_X10_ask_46 rfl ?_
        refine gb_istore [(5, .int (-1)), (4, .int r7.2), (0, .ref 0), (1, .int x1), (2, .int x2), (3, .int x3)] d_X10_ask_47 (Nat.le_of_ble_eq_true rfl) rfl ?_
        refine gb_iconst (-1) d_X10_ask_49 rfl ?_
        refine gb_istore [(6, .int (-1)), (5, .int (-1)), (4, .int r7.2), (0, .ref 0), (1, .int x1), (2, .int x2), (3, .int x3)] d_X10_ask_50 (Nat.le_of_ble_eq_true rfl) rfl ?_
        refine gb_iconst 0 d_X10_ask_52 rfl ?_
        refine gb_istore [(7, .int 0), (6, .int (-1)), (5, .int (-1)), (4, .int r7.2), (0, .ref 0), (1, .int x1), (2, .int x2), (3, .int x3)] d_X10_ask_53 (Nat.le_of_ble_eq_true rfl) rfl ?_
        refine gb_pick (lv' := [(0, .ref 0), (3, .int x3), (4, .int r7.2), (5, .int (-1)), (6, .int (-1)), (7, .int 0)]) [4, 7, 3, 2, 1, 0] rfl ?_
        exact t_X10_ask_55 hS  gb_N _ x3 r7.2 (-1) (-1) 0 h
      · have h := gb_it hc h
        refine gb_iconst (-1) d_X10_ask_29 rfl ?_
        cases h
        exact gb_iret d_X10_ask_30 rfl ⟨rfl, rfl, rfl⟩
-- X10_fair
noncomputable def f_X10_fair_94 (sh : List gb_Sh) (K101 : gb_G → Int32 → Int32 → Int32 → Int32 → Int32 → Option (gb_G × Int32)) (g : gb_G) (y1 : Int32) (y2 : Int32) (y5 : Int32) (y6 : Int32) : Option (gb_G × Int32) := K101 g y1 y2 y5 y6 y5
noncomputable def f_X10_fair_101 (sh : List gb_Sh) (K30 : gb_G → Int32 → Int32 → Int32 → Int32 → Int32 → Option (gb_G × Int32)) (g : gb_G) (y1 : Int32) (y2 : Int32) (y3 : Int32) (y4 : Int32) (y5 : Int32) : Option (gb_G × Int32) := K30 g y1 y2 y3 y4 (y5 + 1)
noncomputable def f_X10_fair_43 (sh : List gb_Sh) (K30 : gb_G → Int32 → Int32 → Int32 → Int32 → Int32 → Option (gb_G × Int32)) : Nat → gb_G → Int32 → Int32 → Int32 → Int32 → Int32 → Int32 → Int32 → Option (gb_G × Int32)
  | 0, _, _, _, _, _, _, _, _ => none
  | n + 1, g, y1, y2, y3, y4, y5, y6, y7 => if (g.1 1 2) ≤ y7 then (if y3 = (-1) then (f_X10_fair_94 sh (fun w w0 w1 w2 w3 w4 => f_X10_fair_101 sh K30 w w0 w1 w2 w3 w4) g y1 y2 y5 y6) else (if y4 ≤ y6 then (f_X10_fair_101 sh K30 g y1 y2 y3 y4 y5) else (f_X10_fair_94 sh (fun w w0 w1 w2 w3 w4 => f_X10_fair_101 sh K30 w w0 w1 w2 w3 w4) g y1 y2 y5 y6))) else (gb_bd (f_X0_ownWeight sh g 1 y7 y1) (fun r5 => gb_bd (f_J9_abs_0f7a4 sh r5.1 (r5.2 - y5)) (fun r7 => f_X10_fair_43 sh K30 n r7.1 y1 y2 y3 y4 y5 (y6 + r7.2) (y7 + 1))))
noncomputable def f_X10_fair_30 (sh : List gb_Sh) : Nat → gb_G → Int32 → Int32 → Int32 → Int32 → Int32 → Option (gb_G × Int32)
  | 0, _, _, _, _, _, _ => none
  | n + 1, g, y1, y2, y3, y4, y5 => if 9 < y5 then (if y2 = 0 then (some (g, y3)) else (some (g, y4))) else (f_X10_fair_43 sh (fun w w0 w1 w2 w3 w4 => f_X10_fair_30 sh n w w0 w1 w2 w3 w4) gb_N g y1 y2 y3 y4 y5 0 0)
noncomputable def f_X10_fair (sh : List gb_Sh) (g : gb_G) (x1 : Int32) (x2 : Int32) : Option (gb_G × Int32) := gb_bd (f_X0_has sh g 1 x1) (fun r1 => if r1.2 = 0 then (some (r1.1, (-1))) else (gb_bd (f_X10_within sh r1.1 x2 0 1) (fun r3 => if r3.2 = 0 then (some (r3.1, (-1))) else (f_X10_fair_30 sh gb_N r3.1 x1 x2 (-1) 0 0))))
set_option maxRecDepth 100000 in
set_option maxHeartbeats 4000000 in
theorem t_X10_fair_94 {Γ : gb_X} {sh : List gb_Sh} {out : gb_G × Int32} (hS : gb_S sh) {K101 : gb_G → Int32 → Int32 → Int32 → Int32 → Int32 → Option (gb_G × Int32)} (hK101 : ∀ (g : gb_G) (y1 : Int32) (y2 : Int32) (y3 : Int32) (y4 : Int32) (y5 : Int32), K101 g y1 y2 y3 y4 y5 = some out → gb_J Γ M_X10_fair 2 (gb_Ri sh out) 0 0 sh g 101 [(0, .ref 0), (1, .int y1), (2, .int y2), (3, .int y3), (4, .int y4), (5, .int y5)] []) : ∀ (g : gb_G) (y1 : Int32) (y2 : Int32) (y5 : Int32) (y6 : Int32), f_X10_fair_94 sh K101 g y1 y2 y5 y6 = some out → gb_J Γ M_X10_fair 2 (gb_Ri sh out) 0 0 sh g 94 [(0, .ref 0), (1, .int y1), (2, .int y2), (5, .int y5), (6, .int y6)] [] := by
  intro g y1 y2 y5 y6 h
  unfold f_X10_fair_94 at h
  refine gb_iload d_X10_fair_94 rfl ?_
  refine gb_istore_n [(3, .int y5), (0, .ref 0), (1, .int y1), (2, .int y2), (5, .int y5), (6, .int y6)] d_X10_fair_96 (Nat.le_of_ble_eq_true rfl) rfl ?_
  refine gb_iload d_X10_fair_97 rfl ?_
  refine gb_istore [(4, .int y6), (3, .int y5), (0, .ref 0), (1, .int y1), (2, .int y2), (5, .int y5), (6, .int y6)] d_X10_fair_99 (Nat.le_of_ble_eq_true rfl) rfl ?_
  refine gb_pick (lv' := [(0, .ref 0), (1, .int y1), (2, .int y2), (3, .int y5), (4, .int y6), (5, .int y5)]) [2, 3, 4, 1, 0, 5] rfl ?_
  exact hK101 _ y1 y2 y5 y6 y5 h
set_option maxRecDepth 100000 in
set_option maxHeartbeats 4000000 in
theorem t_X10_fair_101 {Γ : gb_X} {sh : List gb_Sh} {out : gb_G × Int32} (hS : gb_S sh) {K30 : gb_G → Int32 → Int32 → Int32 → Int32 → Int32 → Option (gb_G × Int32)} (hK30 : ∀ (g : gb_G) (y1 : Int32) (y2 : Int32) (y3 : Int32) (y4 : Int32) (y5 : Int32), K30 g y1 y2 y3 y4 y5 = some out → gb_J Γ M_X10_fair 2 (gb_Ri sh out) 0 0 sh g 30 [(0, .ref 0), (1, .int y1), (2, .int y2), (3, .int y3), (4, .int y4), (5, .int y5)] []) : ∀ (g : gb_G) (y1 : Int32) (y2 : Int32) (y3 : Int32) (y4 : Int32) (y5 : Int32), f_X10_fair_101 sh K30 g y1 y2 y3 y4 y5 = some out → gb_J Γ M_X10_fair 2 (gb_Ri sh out) 0 0 sh g 101 [(0, .ref 0), (1, .int y1), (2, .int y2), (3, .int y3), (4, .int y4), (5, .int y5)] [] := by
  intro g y1 y2 y3 y4 y5 h
  unfold f_X10_fair_101 at h
  refine gb_iinc (y5 + 1) [(5, .int (y5 + 1)), (0, .ref 0), (1, .int y1), (2, .int y2), (3, .int y3), (4, .int y4)] d_X10_fair_101 (Nat.le_of_ble_eq_true rfl) rfl rfl rfl ?_
  refine gb_goto 30 d_X10_fair_104 (by decide) ?_
  refine gb_pick (lv' := [(0, .ref 0), (1, .int y1), (2, .int y2), (3, .int y3), (4, .int y4), (5, .int (y5 + 1))]) [1, 2, 3, 4, 5, 0] rfl ?_
  exact hK30 _ y1 y2 y3 y4 (y5 + 1) h
set_option maxRecDepth 100000 in
set_option maxHeartbeats 4000000 in
theorem t_X10_fair_43 {Γ : gb_X} {sh : List gb_Sh} {out : gb_G × Int32} (hS : gb_S sh) {K30 : gb_G → Int32 → Int32 → Int32 → Int32 → Int32 → Option (gb_G × Int32)} (hK30 : ∀ (g : gb_G) (y1 : Int32) (y2 : Int32) (y3 : Int32) (y4 : Int32) (y5 : Int32), K30 g y1 y2 y3 y4 y5 = some out → gb_J Γ M_X10_fair 2 (gb_Ri sh out) 0 0 sh g 30 [(0, .ref 0), (1, .int y1), (2, .int y2), (3, .int y3), (4, .int y4), (5, .int y5)] []) : ∀ (n : Nat) (g : gb_G) (y1 : Int32) (y2 : Int32) (y3 : Int32) (y4 : Int32) (y5 : Int32) (y6 : Int32) (y7 : Int32), f_X10_fair_43 sh K30 n g y1 y2 y3 y4 y5 y6 y7 = some out → gb_J Γ M_X10_fair 2 (gb_Ri sh out) 0 0 sh g 43 [(0, .ref 0), (1, .int y1), (2, .int y2), (3, .int y3), (4, .int y4), (5, .int y5), (6, .int y6), (7, .int y7)] [] := by
  intro n
  induction n with
  | zero => intro g y1 y2 y3 y4 y5 y6 y7 h; cases h
  | succ n ih =>
    intro g y1 y2 y3 y4 y5 y6 y7 h
    rw [f_X10_fair_43] at h
    refine gb_iload d_X10_fair_43 rfl ?_
    refine gb_aload_n d_X10_fair_45 rfl ?_
    refine gb_getr (r := 1) f_X10_14 (hS 0 _ rfl) rfl d_X10_fair_46 ?_
    refine gb_geti f_X10_157 (ok_X0_1 hS).1 rfl d_X10_fair_49 ?_
    refine gb_icmp_ge 82 d_X10_fair_52 (by decide) (fun hc => ?_) (fun hc => ?_)
    · have h := gb_it hc h
      refine gb_iload_n d_X10_fair_82 rfl ?_
      refine gb_iconst (-1) d_X10_fair_83 rfl ?_
      refine gb_icmp_eq 94 d_X10_fair_84 (by decide) (fun hc => ?_) (fun hc => ?_)
      · have h := gb_it hc h
        refine gb_pick (lv' := [(0, .ref 0), (1, .int y1), (2, .int y2), (5, .int y5), (6, .int y6)]) [0, 1, 2, 5, 6] rfl ?_
        exact t_X10_fair_94 hS (fun w w0 w1 w2 w3 w4 hw => t_X10_fair_101 hS hK30 w w0 w1 w2 w3 w4 hw) _ y1 y2 y5 y6 h
      · have h := gb_if hc h
        refine gb_iload d_X10_fair_87 rfl ?_
        refine gb_iload d_X10_fair_89 rfl ?_
        refine gb_icmp_ge 101 d_X10_fair_91 (by decide) (fun hc => ?_) (fun hc => ?_)
        · have h := gb_it hc h
          refine gb_pick (lv' := [(0, .ref 0), (1, .int y1), (2, .int y2), (3, .int y3), (4, .int y4), (5, .int y5)]) [0, 1, 2, 3, 4, 5] rfl ?_
          exact t_X10_fair_101 hS hK30 _ y1 y2 y3 y4 y5 h
        · have h := gb_if hc h
          refine gb_pick (lv' := [(0, .ref 0), (1, .int y1), (2, .int y2), (5, .int y5), (6, .int y6)]) [0, 1, 2, 5, 6] rfl ?_
          exact t_X10_fair_94 hS (fun w w0 w1 w2 w3 w4 hw => t_X10_fair_101 hS hK30 w w0 w1 w2 w3 w4 hw) _ y1 y2 y5 y6 h
    · have h := gb_if hc h
      refine gb_iload d_X10_fair_55 rfl ?_
      refine gb_aload_n d_X10_fair_57 rfl ?_
      refine gb_getr (r := 1) f_X10_14 (hS 0 _ rfl) rfl d_X10_fair_58 ?_
      refine gb_iload d_X10_fair_61 rfl ?_
      refine gb_iload_n d_X10_fair_63 rfl ?_
      obtain ⟨r5, e6, h⟩ := gb_bd_e h
      refine gb_cVi (As := [.int y7, .int y1]) (rest := [.int y6]) m_X10_160 (t_X0_ownWeight (Γ := Γ) hS (ok_X0_1 hS) e6) (ok_X0_1 hS).1 rfl (Nat.le_of_ble_eq_true rfl) rfl rfl (Nat.le_of_ble_eq_true rfl) d_X10_fair_64 ?_
      refine gb_iload d_X10_fair_67 rfl ?_
      refine gb_isub d_X10_fair_69 ?_
      obtain ⟨r7, e8, h⟩ := gb_bd_e h
      refine gb_cSi (As := [.int (r5.2 - y5)]) (rest := [.int y6]) m_X10_319 (t_J9_abs_0f7a4 (Γ := Γ) hS e8) (Nat.le_of_ble_eq_true rfl) rfl rfl (Nat.le_of_ble_eq_true rfl) d_X10_fair_70 ?_
      refine gb_iadd d_X10_fair_73 ?_
      refine gb_istore [(6, .int (y6 + r7.2)), (0, .ref 0), (1, .int y1), (2, .int y2), (3, .int y3), (4, .int y4), (5, .int y5), (7, .int y7)] d_X10_fair_74 (Nat.le_of_ble_eq_true rfl) rfl ?_
      refine gb_iinc (y7 + 1) [(7, .int (y7 + 1)), (6, .int (y6 + r7.2)), (0, .ref 0), (1, .int y1), (2, .int y2), (3, .int y3), (4, .int y4), (5, .int y5)] d_X10_fair_76 (Nat.le_of_ble_eq_true rfl) rfl rfl rfl ?_
      refine gb_goto 43 d_X10_fair_79 (by decide) ?_
      refine gb_pick (lv' := [(0, .ref 0), (1, .int y1), (2, .int y2), (3, .int y3), (4, .int y4), (5, .int y5), (6, .int (y6 + r7.2)), (7, .int (y7 + 1))]) [2, 3, 4, 5, 6, 7, 1, 0] rfl ?_
      exact ih _ y1 y2 y3 y4 y5 (y6 + r7.2) (y7 + 1) h
set_option maxRecDepth 100000 in
set_option maxHeartbeats 4000000 in
theorem t_X10_fair_30 {Γ : gb_X} {sh : List gb_Sh} {out : gb_G × Int32} (hS : gb_S sh) : ∀ (n : Nat) (g : gb_G) (y1 : Int32) (y2 : Int32) (y3 : Int32) (y4 : Int32) (y5 : Int32), f_X10_fair_30 sh n g y1 y2 y3 y4 y5 = some out → gb_J Γ M_X10_fair 2 (gb_Ri sh out) 0 0 sh g 30 [(0, .ref 0), (1, .int y1), (2, .int y2), (3, .int y3), (4, .int y4), (5, .int y5)] [] := by
  intro n
  induction n with
  | zero => intro g y1 y2 y3 y4 y5 h; cases h
  | succ n ih =>
    intro g y1 y2 y3 y4 y5 h
    rw [f_X10_fair_30] at h
    refine gb_iload d_X10_fair_30 rfl ?_
    refine gb_bipush 9 d_X10_fair_32 rfl ?_
    refine gb_icmp_gt 107 d_X10_fair_34 (by decide) (fun hc => ?_) (fun hc => ?_)
    · have h := gb_it hc h
      refine gb_iload_n d_X10_fair_107 rfl ?_
      refine gb_if_ne 115 d_X10_fair_108 (by decide) (fun hc => ?_) (fun hc => ?_)
      · have h := gb_if hc h
        refine gb_iload d_X10_fair_115 rfl ?_
        cases h
        exact gb_iret d_X10_fair_117 rfl ⟨rfl, rfl, rfl⟩
      · have h := gb_it hc h
        refine gb_iload_n d_X10_fair_111 rfl ?_
        refine gb_goto 117 d_X10_fair_112 (by decide) ?_
        cases h
        exact gb_iret d_X10_fair_117 rfl ⟨rfl, rfl, rfl⟩
    · have h := gb_if hc h
      refine gb_iconst 0 d_X10_fair_37 rfl ?_
      refine gb_istore [(6, .int 0), (0, .ref 0), (1, .int y1), (2, .int y2), (3, .int y3), (4, .int y4), (5, .int y5)] d_X10_fair_38 (Nat.le_of_ble_eq_true rfl) rfl ?_
      refine gb_iconst 0 d_X10_fair_40 rfl ?_
      refine gb_istore [(7, .int 0), (6, .int 0), (0, .ref 0), (1, .int y1), (2, .int y2), (3, .int y3), (4, .int y4), (5, .int y5)] d_X10_fair_41 (Nat.le_of_ble_eq_true rfl) rfl ?_
      refine gb_pick (lv' := [(0, .ref 0), (1, .int y1), (2, .int y2), (3, .int y3), (4, .int y4), (5, .int y5), (6, .int 0), (7, .int 0)]) [2, 3, 4, 5, 6, 7, 1, 0] rfl ?_
      exact t_X10_fair_43 hS (fun w w0 w1 w2 w3 w4 hw => ih w w0 w1 w2 w3 w4 hw) gb_N _ y1 y2 y3 y4 y5 0 0 h
set_option maxRecDepth 100000 in
set_option maxHeartbeats 4000000 in
theorem t_X10_fair {Γ : gb_X} {sh : List gb_Sh} {x1 : Int32} {x2 : Int32} {out : gb_G × Int32} (hS : gb_S sh) {g : gb_G} (h : f_X10_fair sh g x1 x2 = some out) : gb_C Γ M_X10_fair 2 0 0 sh g [.ref 0, .int x1, .int x2] (gb_Ri sh out) := by
  refine gb_C.of rfl (Nat.le_of_ble_eq_true rfl) ?_
  refine gb_pick (lv' := [(0, .ref 0), (1, .int x1), (2, .int x2)]) [0, 1, 2] rfl ?_
  unfold f_X10_fair at h
  refine gb_aload_n d_X10_fair_0 rfl ?_
  refine gb_getr (r := 1) f_X10_14 (hS 0 _ rfl) rfl d_X10_fair_1 ?_
  refine gb_iload_n d_X10_fair_4 rfl ?_
  obtain ⟨r1, e2, h⟩ := gb_bd_e h
  refine gb_cVi (As := [.int x1]) (rest := []) m_X10_140 (t_X0_has (Γ := Γ) hS (ok_X0_1 hS) e2) (ok_X0_1 hS).1 rfl (Nat.le_of_ble_eq_true rfl) rfl rfl (Nat.le_of_ble_eq_true rfl) d_X10_fair_5 ?_
  refine gb_if_eq 20 d_X10_fair_8 (by decide) (fun hc => ?_) (fun hc => ?_)
  · have h := gb_it hc h
    refine gb_iconst (-1) d_X10_fair_20 rfl ?_
    cases h
    exact gb_iret d_X10_fair_21 rfl ⟨rfl, rfl, rfl⟩
  · have h := gb_if hc h
    refine gb_iload_n d_X10_fair_11 rfl ?_
    refine gb_iconst 0 d_X10_fair_12 rfl ?_
    refine gb_iconst 1 d_X10_fair_13 rfl ?_
    obtain ⟨r3, e4, h⟩ := gb_bd_e h
    refine gb_cSi (As := [.int x2, .int 0, .int 1]) (rest := []) m_X10_115 (t_X10_within (Γ := Γ) hS e4) (Nat.le_of_ble_eq_true rfl) rfl rfl (Nat.le_of_ble_eq_true rfl) d_X10_fair_14 ?_
    refine gb_if_ne 22 d_X10_fair_17 (by decide) (fun hc => ?_) (fun hc => ?_)
    · have h := gb_if hc h
      refine gb_iconst (-1) d_X10_fair_22 rfl ?_
      refine gb_istore_n [(3, .int (-1)), (0, .ref 0), (1, .int x1), (2, .int x2)] d_X10_fair_23 (Nat.le_of_ble_eq_true rfl) rfl ?_
      refine gb_iconst 0 d_X10_fair_24 rfl ?_
      refine gb_istore [(4, .int 0), (3, .int (-1)), (0, .ref 0), (1, .int x1), (2, .int x2)] d_X10_fair_25 (Nat.le_of_ble_eq_true rfl) rfl ?_
      refine gb_iconst 0 d_X10_fair_27 rfl ?_
      refine gb_istore [(5, .int 0), (4, .int 0), (3, .int (-1)), (0, .ref 0), (1, .int x1), (2, .int x2)] d_X10_fair_28 (Nat.le_of_ble_eq_true rfl) rfl ?_
      refine gb_pick (lv' := [(0, .ref 0), (1, .int x1), (2, .int x2), (3, .int (-1)), (4, .int 0), (5, .int 0)]) [3, 4, 5, 2, 1, 0] rfl ?_
      exact t_X10_fair_30 hS  gb_N _ x1 x2 (-1) 0 0 h
    · have h := gb_it hc h
      refine gb_iconst (-1) d_X10_fair_20 rfl ?_
      cases h
      exact gb_iret d_X10_fair_21 rfl ⟨rfl, rfl, rfl⟩
-- X10_hear
noncomputable def f_X10_hear (sh : List gb_Sh) (g : gb_G) (x1 : Int32) : Option (gb_G × Int32) := gb_bd (f_X10_within sh g x1 0 999) (fun r1 => if r1.2 = 0 then (gb_bd (f_X10_refuse sh r1.1 (-1)) (fun r10 => some (r10.1, r10.2))) else (if (r1.1.1 1 4) < 12 then (gb_ck (r1.1.1 1 4) 12 (gb_let (gb_pi r1.1 (1 + 3) ((r1.1.1 1 4).toNatClampNeg) x1) (fun g4 => gb_let (gb_pi g4 1 4 ((g4.1 1 4) + 1)) (fun g5 => gb_bd (f_X10_grant sh g5 (g5.1 1 4)) (fun r6 => some (r6.1, r6.2)))))) else (gb_bd (f_X10_refuse sh r1.1 (-5)) (fun r8 => some (r8.1, r8.2)))))
set_option maxRecDepth 100000 in
set_option maxHeartbeats 4000000 in
theorem t_X10_hear {Γ : gb_X} {sh : List gb_Sh} {x1 : Int32} {out : gb_G × Int32} (hS : gb_S sh) {g : gb_G} (h : f_X10_hear sh g x1 = some out) : gb_C Γ M_X10_hear 2 0 0 sh g [.ref 0, .int x1] (gb_Ri sh out) := by
  refine gb_C.of rfl (Nat.le_of_ble_eq_true rfl) ?_
  refine gb_pick (lv' := [(0, .ref 0), (1, .int x1)]) [0, 1] rfl ?_
  unfold f_X10_hear at h
  refine gb_iload_n d_X10_hear_0 rfl ?_
  refine gb_iconst 0 d_X10_hear_1 rfl ?_
  refine gb_sipush 999 d_X10_hear_2 rfl ?_
  obtain ⟨r1, e2, h⟩ := gb_bd_e h
  refine gb_cSi (As := [.int x1, .int 0, .int 999]) (rest := []) m_X10_115 (t_X10_within (Γ := Γ) hS e2) (Nat.le_of_ble_eq_true rfl) rfl rfl (Nat.le_of_ble_eq_true rfl) d_X10_hear_5 ?_
  refine gb_if_ne 17 d_X10_hear_8 (by decide) (fun hc => ?_) (fun hc => ?_)
  · have h := gb_if hc h
    refine gb_aload_n d_X10_hear_17 rfl ?_
    refine gb_getr (r := 1) f_X10_14 (hS 0 _ rfl) rfl d_X10_hear_18 ?_
    refine gb_geti f_X10_322 (ok_X0_1 hS).1 rfl d_X10_hear_21 ?_
    refine gb_bipush 12 d_X10_hear_24 rfl ?_
    refine gb_icmp_lt 36 d_X10_hear_26 (by decide) (fun hc => ?_) (fun hc => ?_)
    · have h := gb_it hc h
      refine gb_aload_n d_X10_hear_36 rfl ?_
      refine gb_getr (r := 1) f_X10_14 (hS 0 _ rfl) rfl d_X10_hear_37 ?_
      refine gb_getr (r := (1 + 3)) f_X10_325 (ok_X0_1 hS).1 rfl d_X10_hear_40 ?_
      refine gb_aload_n d_X10_hear_43 rfl ?_
      refine gb_getr (r := 1) f_X10_14 (hS 0 _ rfl) rfl d_X10_hear_44 ?_
      refine gb_geti f_X10_322 (ok_X0_1 hS).1 rfl d_X10_hear_47 ?_
      refine gb_iload_n d_X10_hear_50 rfl ?_
      obtain ⟨hi3, h⟩ := gb_ck_e h
      refine gb_iast_ ((r1.1.1 1 4).toNatClampNeg) rfl (ok_X0_1 hS).2.2.2.1 hi3 d_X10_hear_51 ?_
      have h := gb_let_e h
      generalize gb_pi r1.1 (1 + 3) ((r1.1.1 1 4).toNatClampNeg) x1 = g4 at h ⊢
      refine gb_aload_n d_X10_hear_52 rfl ?_
      refine gb_getr (r := 1) f_X10_14 (hS 0 _ rfl) rfl d_X10_hear_53 ?_
      refine gb_dup d_X10_hear_56 rfl ?_
      refine gb_geti f_X10_322 (ok_X0_1 hS).1 rfl d_X10_hear_57 ?_
      refine gb_iconst 1 d_X10_hear_60 rfl ?_
      refine gb_iadd d_X10_hear_61 ?_
      refine gb_puti f_X10_322 (fun h => nomatch h) (ok_X0_1 hS).1 rfl rfl rfl d_X10_hear_62 ?_
      have h := gb_let_e h
      generalize gb_pi g4 1 4 ((g4.1 1 4) + 1) = g5 at h ⊢
      refine gb_aload_n d_X10_hear_65 rfl ?_
      refine gb_aload_n d_X10_hear_66 rfl ?_
      refine gb_getr (r := 1) f_X10_14 (hS 0 _ rfl) rfl d_X10_hear_67 ?_
      refine gb_geti f_X10_322 (ok_X0_1 hS).1 rfl d_X10_hear_70 ?_
      obtain ⟨r6, e7, h⟩ := gb_bd_e h
      refine gb_cVi (As := [.int (g5.1 1 4)]) (rest := []) m_X10_133 (t_X10_grant (Γ := Γ) hS e7) (hS 0 _ rfl) rfl (Nat.le_of_ble_eq_true rfl) rfl rfl (Nat.le_of_ble_eq_true rfl) d_X10_hear_73 ?_
      cases h
      exact gb_iret d_X10_hear_76 rfl ⟨rfl, rfl, rfl⟩
    · have h := gb_if hc h
      refine gb_aload_n d_X10_hear_29 rfl ?_
      refine gb_bipush (-5) d_X10_hear_30 rfl ?_
      obtain ⟨r8, e9, h⟩ := gb_bd_e h
      refine gb_cVi (As := [.int (-5)]) (rest := []) m_X10_119 (t_X10_refuse (Γ := Γ) hS e9) (hS 0 _ rfl) rfl (Nat.le_of_ble_eq_true rfl) rfl rfl (Nat.le_of_ble_eq_true rfl) d_X10_hear_32 ?_
      cases h
      exact gb_iret d_X10_hear_35 rfl ⟨rfl, rfl, rfl⟩
  · have h := gb_it hc h
    refine gb_aload_n d_X10_hear_11 rfl ?_
    refine gb_iconst (-1) d_X10_hear_12 rfl ?_
    obtain ⟨r10, e11, h⟩ := gb_bd_e h
    refine gb_cVi (As := [.int (-1)]) (rest := []) m_X10_119 (t_X10_refuse (Γ := Γ) hS e11) (hS 0 _ rfl) rfl (Nat.le_of_ble_eq_true rfl) rfl rfl (Nat.le_of_ble_eq_true rfl) d_X10_hear_13 ?_
    cases h
    exact gb_iret d_X10_hear_16 rfl ⟨rfl, rfl, rfl⟩
-- X10_forget
noncomputable def f_X10_forget (sh : List gb_Sh) (g : gb_G) : Option (gb_G × Int32) := gb_let (gb_pi g 1 4 0) (fun g1 => some (g1, (g.1 1 4)))
set_option maxRecDepth 100000 in
set_option maxHeartbeats 4000000 in
theorem t_X10_forget {Γ : gb_X} {sh : List gb_Sh} {out : gb_G × Int32} (hS : gb_S sh) {g : gb_G} (h : f_X10_forget sh g = some out) : gb_C Γ M_X10_forget 0 0 0 sh g [.ref 0] (gb_Ri sh out) := by
  refine gb_C.of rfl (Nat.le_of_ble_eq_true rfl) ?_
  refine gb_pick (lv' := [(0, .ref 0)]) [0] rfl ?_
  unfold f_X10_forget at h
  refine gb_aload_n d_X10_forget_0 rfl ?_
  refine gb_getr (r := 1) f_X10_14 (hS 0 _ rfl) rfl d_X10_forget_1 ?_
  refine gb_geti f_X10_322 (ok_X0_1 hS).1 rfl d_X10_forget_4 ?_
  refine gb_istore_n [(1, .int (g.1 1 4)), (0, .ref 0)] d_X10_forget_7 (Nat.le_of_ble_eq_true rfl) rfl ?_
  refine gb_aload_n d_X10_forget_8 rfl ?_
  refine gb_getr (r := 1) f_X10_14 (hS 0 _ rfl) rfl d_X10_forget_9 ?_
  refine gb_iconst 0 d_X10_forget_12 rfl ?_
  refine gb_puti f_X10_322 (fun h => nomatch h) (ok_X0_1 hS).1 rfl rfl rfl d_X10_forget_13 ?_
  have h := gb_let_e h
  generalize gb_pi g 1 4 0 = g1 at h ⊢
  refine gb_iload_n d_X10_forget_16 rfl ?_
  cases h
  exact gb_iret d_X10_forget_17 rfl ⟨rfl, rfl, rfl⟩
-- X10_trend
noncomputable def f_X10_trend_20 (sh : List gb_Sh) (g : gb_G)  : Option (gb_G × Int32) := some (g, (-100000))
noncomputable def f_X10_trend_53 (sh : List gb_Sh) (g : gb_G) (y1 : Int32) : Option (gb_G × Int32) := gb_bd (f_X2_side sh g 74 (gb_rem y1 2)) (fun r5 => some (r5.1, r5.2.toInt32))
noncomputable def f_X10_trend (sh : List gb_Sh) (g : gb_G) (x1 : Int32) : Option (gb_G × Int32) := if (g.1 1 4) < 2 then (f_X10_trend_20 sh g ) else (gb_bd (f_X10_within sh g x1 0 3) (fun r1 => if r1.2 = 0 then (f_X10_trend_20 sh r1.1 ) else (if 2 ≤ x1 then (gb_bd (f_X6_atStart sh r1.1 1) (fun r3 => f_X10_trend_53 sh r3 x1)) else (gb_bd (f_X6_rise sh r1.1 1) (fun r7 => f_X10_trend_53 sh r7 x1)))))
set_option maxRecDepth 100000 in
set_option maxHeartbeats 4000000 in
theorem t_X10_trend_20 {Γ : gb_X} {sh : List gb_Sh} {out : gb_G × Int32} (hS : gb_S sh) : ∀ (g : gb_G) , f_X10_trend_20 sh g  = some out → gb_J Γ M_X10_trend 3 (gb_Ri sh out) 0 0 sh g 20 [] [] := by
  intro g  h
  unfold f_X10_trend_20 at h
  refine gb_ldc (-100000) k_X10_144 d_X10_trend_20 ?_
  cases h
  exact gb_iret d_X10_trend_22 rfl ⟨rfl, rfl, rfl⟩
set_option maxRecDepth 100000 in
set_option maxHeartbeats 4000000 in
theorem t_X10_trend_53 {Γ : gb_X} {sh : List gb_Sh} {out : gb_G × Int32} (hS : gb_S sh) : ∀ (g : gb_G) (y1 : Int32), f_X10_trend_53 sh g y1 = some out → gb_J Γ M_X10_trend 3 (gb_Ri sh out) 0 0 sh g 53 [(1, .int y1)] [.ref 74] := by
  intro g y1 h
  unfold f_X10_trend_53 at h
  refine gb_astore_n [(2, .ref 74), (1, .int y1)] d_X10_trend_53 (Nat.le_of_ble_eq_true rfl) rfl ?_
  refine gb_aload_n d_X10_trend_54 rfl ?_
  refine gb_iload_n d_X10_trend_55 rfl ?_
  refine gb_iconst 2 d_X10_trend_56 rfl ?_
  refine gb_rem_ d_X10_trend_57 (by decide) ?_
  obtain ⟨r5, e6, h⟩ := gb_bd_e h
  refine gb_cVl (As := [.int (gb_rem y1 2)]) (rest := []) m_X10_282 (t_X2_side (Γ := Γ) hS (ok_X2_74 hS) e6) (ok_X2_74 hS) rfl (Nat.le_of_ble_eq_true rfl) rfl rfl (Nat.le_of_ble_eq_true rfl) d_X10_trend_58 ?_
  refine gb_l2i d_X10_trend_61 ?_
  cases h
  exact gb_iret d_X10_trend_62 rfl ⟨rfl, rfl, rfl⟩
set_option maxRecDepth 100000 in
set_option maxHeartbeats 4000000 in
theorem t_X10_trend {Γ : gb_X} {sh : List gb_Sh} {x1 : Int32} {out : gb_G × Int32} (hS : gb_S sh) {g : gb_G} (h : f_X10_trend sh g x1 = some out) : gb_C Γ M_X10_trend 3 0 0 sh g [.ref 0, .int x1] (gb_Ri sh out) := by
  refine gb_C.of rfl (Nat.le_of_ble_eq_true rfl) ?_
  refine gb_pick (lv' := [(0, .ref 0), (1, .int x1)]) [0, 1] rfl ?_
  unfold f_X10_trend at h
  refine gb_aload_n d_X10_trend_0 rfl ?_
  refine gb_getr (r := 1) f_X10_14 (hS 0 _ rfl) rfl d_X10_trend_1 ?_
  refine gb_geti f_X10_322 (ok_X0_1 hS).1 rfl d_X10_trend_4 ?_
  refine gb_iconst 2 d_X10_trend_7 rfl ?_
  refine gb_icmp_lt 20 d_X10_trend_8 (by decide) (fun hc => ?_) (fun hc => ?_)
  · have h := gb_it hc h
    refine gb_pick (lv' := []) [] rfl ?_
    exact t_X10_trend_20 hS  _  h
  · have h := gb_if hc h
    refine gb_iload_n d_X10_trend_11 rfl ?_
    refine gb_iconst 0 d_X10_trend_12 rfl ?_
    refine gb_iconst 3 d_X10_trend_13 rfl ?_
    obtain ⟨r1, e2, h⟩ := gb_bd_e h
    refine gb_cSi (As := [.int x1, .int 0, .int 3]) (rest := []) m_X10_115 (t_X10_within (Γ := Γ) hS e2) (Nat.le_of_ble_eq_true rfl) rfl rfl (Nat.le_of_ble_eq_true rfl) d_X10_trend_14 ?_
    refine gb_if_ne 23 d_X10_trend_17 (by decide) (fun hc => ?_) (fun hc => ?_)
    · have h := gb_if hc h
      refine gb_iload_n d_X10_trend_23 rfl ?_
      refine gb_iconst 2 d_X10_trend_24 rfl ?_
      refine gb_icmp_ge 42 d_X10_trend_25 (by decide) (fun hc => ?_) (fun hc => ?_)
      · have h := gb_it hc h
        refine gb_aload_n d_X10_trend_42 rfl ?_
        refine gb_getr (r := 63) f_X10_88 (hS 0 _ rfl) rfl d_X10_trend_43 ?_
        refine gb_aload_n d_X10_trend_46 rfl ?_
        refine gb_getr (r := 1) f_X10_14 (hS 0 _ rfl) rfl d_X10_trend_47 ?_
        obtain ⟨r3, e4, h⟩ := gb_bd_e h
        refine gb_cVr (As := [.ref 1]) (rest := []) m_X10_332 (t_X6_atStart (Γ := Γ) hS (ok_X0_1 hS) e4) (hS 63 _ rfl) rfl (Nat.le_of_ble_eq_true rfl) rfl rfl (Nat.le_of_ble_eq_true rfl) d_X10_trend_50 ?_
        refine gb_pick (lv' := [(1, .int x1)]) [1] rfl ?_
        exact t_X10_trend_53 hS  _ x1 h
      · have h := gb_if hc h
        refine gb_aload_n d_X10_trend_28 rfl ?_
        refine gb_getr (r := 63) f_X10_88 (hS 0 _ rfl) rfl d_X10_trend_29 ?_
        refine gb_aload_n d_X10_trend_32 rfl ?_
        refine gb_getr (r := 1) f_X10_14 (hS 0 _ rfl) rfl d_X10_trend_33 ?_
        obtain ⟨r7, e8, h⟩ := gb_bd_e h
        refine gb_cVr (As := [.ref 1]) (rest := []) m_X10_328 (t_X6_rise (Γ := Γ) hS (ok_X0_1 hS) e8) (hS 63 _ rfl) rfl (Nat.le_of_ble_eq_true rfl) rfl rfl (Nat.le_of_ble_eq_true rfl) d_X10_trend_36 ?_
        refine gb_goto 53 d_X10_trend_39 (by decide) ?_
        refine gb_pick (lv' := [(1, .int x1)]) [1] rfl ?_
        exact t_X10_trend_53 hS  _ x1 h
    · have h := gb_it hc h
      refine gb_pick (lv' := []) [] rfl ?_
      exact t_X10_trend_20 hS  _  h
-- X10_does
noncomputable def f_X10_does (sh : List gb_Sh) (g : gb_G) (x1 : Int32) : Option (gb_G × Int32) := gb_bd (f_X0_has sh g 1 x1) (fun r1 => if r1.2 = 0 then (some (r1.1, (-100000))) else (gb_bd (f_X0_lawInForce sh r1.1 1) (fun r3 => gb_bd (f_X1_load sh r3.1 1 r3.2) (fun r5 => gb_bd (f_X1_thousandths sh r5) (fun r7 => gb_ck x1 8 (gb_let (gb_pi r7.1 60 x1.toNatClampNeg 0) (fun g10 => gb_bd (f_X1_thousandths sh g10) (fun r11 => some (r11.1, (r7.2 - r11.2))))))))))
set_option maxRecDepth 100000 in
set_option maxHeartbeats 4000000 in
theorem t_X10_does {Γ : gb_X} {sh : List gb_Sh} {x1 : Int32} {out : gb_G × Int32} (hS : gb_S sh) {g : gb_G} (h : f_X10_does sh g x1 = some out) : gb_C Γ M_X10_does 4 0 0 sh g [.ref 0, .int x1] (gb_Ri sh out) := by
  refine gb_C.of rfl (Nat.le_of_ble_eq_true rfl) ?_
  refine gb_pick (lv' := [(0, .ref 0), (1, .int x1)]) [0, 1] rfl ?_
  unfold f_X10_does at h
  refine gb_aload_n d_X10_does_0 rfl ?_
  refine gb_getr (r := 1) f_X10_14 (hS 0 _ rfl) rfl d_X10_does_1 ?_
  refine gb_iload_n d_X10_does_4 rfl ?_
  obtain ⟨r1, e2, h⟩ := gb_bd_e h
  refine gb_cVi (As := [.int x1]) (rest := []) m_X10_140 (t_X0_has (Γ := Γ) hS (ok_X0_1 hS) e2) (ok_X0_1 hS).1 rfl (Nat.le_of_ble_eq_true rfl) rfl rfl (Nat.le_of_ble_eq_true rfl) d_X10_does_5 ?_
  refine gb_if_ne 14 d_X10_does_8 (by decide) (fun hc => ?_) (fun hc => ?_)
  · have h := gb_if hc h
    refine gb_aload_n d_X10_does_14 rfl ?_
    refine gb_getr (r := 57) f_X10_79 (hS 0 _ rfl) rfl d_X10_does_15 ?_
    refine gb_aload_n d_X10_does_18 rfl ?_
    refine gb_getr (r := 1) f_X10_14 (hS 0 _ rfl) rfl d_X10_does_19 ?_
    refine gb_aload_n d_X10_does_22 rfl ?_
    refine gb_getr (r := 1) f_X10_14 (hS 0 _ rfl) rfl d_X10_does_23 ?_
    obtain ⟨r3, e4, h⟩ := gb_bd_e h
    refine gb_cVq (As := []) (rest := [.ref 1, .ref 57]) m_X10_145 (t_X0_lawInForce (Γ := Γ) hS (ok_X0_1 hS) e4) (ok_X0_1 hS).1 rfl (Nat.le_of_ble_eq_true rfl) rfl rfl (Nat.le_of_ble_eq_true rfl) d_X10_does_26 ?_
    obtain ⟨r5, e6, h⟩ := gb_bd_e h
    refine gb_cVv (As := [.ref 1, va_rf r3.2]) (rest := []) m_X10_252 (t_X1_load (Γ := Γ) hS (ok_X0_1 hS) e6) (hS 57 _ rfl) rfl (Nat.le_of_ble_eq_true rfl) rfl rfl (Nat.le_of_ble_eq_true rfl) d_X10_does_29 ?_
    refine gb_aload_n d_X10_does_32 rfl ?_
    refine gb_getr (r := 57) f_X10_79 (hS 0 _ rfl) rfl d_X10_does_33 ?_
    obtain ⟨r7, e8, h⟩ := gb_bd_e h
    refine gb_cVi (As := []) (rest := []) m_X10_335 (t_X1_thousandths (Γ := Γ) hS e8) (hS 57 _ rfl) rfl (Nat.le_of_ble_eq_true rfl) rfl rfl (Nat.le_of_ble_eq_true rfl) d_X10_does_36 ?_
    refine gb_istore_n [(2, .int r7.2), (0, .ref 0), (1, .int x1)] d_X10_does_39 (Nat.le_of_ble_eq_true rfl) rfl ?_
    refine gb_aload_n d_X10_does_40 rfl ?_
    refine gb_getr (r := 57) f_X10_79 (hS 0 _ rfl) rfl d_X10_does_41 ?_
    refine gb_getr (r := 60) f_X10_338 (hS 57 _ rfl) rfl d_X10_does_44 ?_
    refine gb_iload_n d_X10_does_47 rfl ?_
    refine gb_iconst 0 d_X10_does_48 rfl ?_
    obtain ⟨hi9, h⟩ := gb_ck_e h
    refine gb_iast_ x1.toNatClampNeg rfl (hS 60 _ rfl) hi9 d_X10_does_49 ?_
    have h := gb_let_e h
    generalize gb_pi r7.1 60 x1.toNatClampNeg 0 = g10 at h ⊢
    refine gb_iload_n d_X10_does_50 rfl ?_
    refine gb_aload_n d_X10_does_51 rfl ?_
    refine gb_getr (r := 57) f_X10_79 (hS 0 _ rfl) rfl d_X10_does_52 ?_
    obtain ⟨r11, e12, h⟩ := gb_bd_e h
    refine gb_cVi (As := []) (rest := [.int r7.2]) m_X10_335 (t_X1_thousandths (Γ := Γ) hS e12) (hS 57 _ rfl) rfl (Nat.le_of_ble_eq_true rfl) rfl rfl (Nat.le_of_ble_eq_true rfl) d_X10_does_55 ?_
    refine gb_isub d_X10_does_58 ?_
    cases h
    exact gb_iret d_X10_does_59 rfl ⟨rfl, rfl, rfl⟩
  · have h := gb_it hc h
    refine gb_ldc (-100000) k_X10_144 d_X10_does_11 ?_
    cases h
    exact gb_iret d_X10_does_13 rfl ⟨rfl, rfl, rfl⟩
-- X10_compare
noncomputable def f_X10_compare_24 (sh : List gb_Sh) (g : gb_G) (y1 : Int32) : Option (gb_G × Int32) := gb_bd (f_X0_lawAt sh g 1 y1) (fun r1 => gb_bd (f_X1_load sh r1.1 1 r1.2) (fun r3 => gb_bd (f_X1_thousandths sh r3) (fun r5 => some (r5.1, r5.2))))
noncomputable def f_X10_compare (sh : List gb_Sh) (g : gb_G) (x1 : Int32) : Option (gb_G × Int32) := if x1 = (-1) then (f_X10_compare_24 sh g x1) else (gb_bd (f_X10_within sh g x1 0 ((g.1 1 7) - 1)) (fun r7 => if r7.2 = 0 then (some (r7.1, (-1))) else (f_X10_compare_24 sh r7.1 x1)))
set_option maxRecDepth 100000 in
set_option maxHeartbeats 4000000 in
theorem t_X10_compare_24 {Γ : gb_X} {sh : List gb_Sh} {out : gb_G × Int32} (hS : gb_S sh) : ∀ (g : gb_G) (y1 : Int32), f_X10_compare_24 sh g y1 = some out → gb_J Γ M_X10_compare 4 (gb_Ri sh out) 0 0 sh g 24 [(0, .ref 0), (1, .int y1)] [] := by
  intro g y1 h
  unfold f_X10_compare_24 at h
  refine gb_aload_n d_X10_compare_24 rfl ?_
  refine gb_getr (r := 57) f_X10_79 (hS 0 _ rfl) rfl d_X10_compare_25 ?_
  refine gb_aload_n d_X10_compare_28 rfl ?_
  refine gb_getr (r := 1) f_X10_14 (hS 0 _ rfl) rfl d_X10_compare_29 ?_
  refine gb_aload_n d_X10_compare_32 rfl ?_
  refine gb_getr (r := 1) f_X10_14 (hS 0 _ rfl) rfl d_X10_compare_33 ?_
  refine gb_iload_n d_X10_compare_36 rfl ?_
  obtain ⟨r1, e2, h⟩ := gb_bd_e h
  refine gb_cVq (As := [.int y1]) (rest := [.ref 1, .ref 57]) m_X10_341 (t_X0_lawAt (Γ := Γ) hS (ok_X0_1 hS) e2) (ok_X0_1 hS).1 rfl (Nat.le_of_ble_eq_true rfl) rfl rfl (Nat.le_of_ble_eq_true rfl) d_X10_compare_37 ?_
  obtain ⟨r3, e4, h⟩ := gb_bd_e h
  refine gb_cVv (As := [.ref 1, va_rf r1.2]) (rest := []) m_X10_252 (t_X1_load (Γ := Γ) hS (ok_X0_1 hS) e4) (hS 57 _ rfl) rfl (Nat.le_of_ble_eq_true rfl) rfl rfl (Nat.le_of_ble_eq_true rfl) d_X10_compare_40 ?_
  refine gb_aload_n d_X10_compare_43 rfl ?_
  refine gb_getr (r := 57) f_X10_79 (hS 0 _ rfl) rfl d_X10_compare_44 ?_
  obtain ⟨r5, e6, h⟩ := gb_bd_e h
  refine gb_cVi (As := []) (rest := []) m_X10_335 (t_X1_thousandths (Γ := Γ) hS e6) (hS 57 _ rfl) rfl (Nat.le_of_ble_eq_true rfl) rfl rfl (Nat.le_of_ble_eq_true rfl) d_X10_compare_47 ?_
  cases h
  exact gb_iret d_X10_compare_50 rfl ⟨rfl, rfl, rfl⟩
set_option maxRecDepth 100000 in
set_option maxHeartbeats 4000000 in
theorem t_X10_compare {Γ : gb_X} {sh : List gb_Sh} {x1 : Int32} {out : gb_G × Int32} (hS : gb_S sh) {g : gb_G} (h : f_X10_compare sh g x1 = some out) : gb_C Γ M_X10_compare 4 0 0 sh g [.ref 0, .int x1] (gb_Ri sh out) := by
  refine gb_C.of rfl (Nat.le_of_ble_eq_true rfl) ?_
  refine gb_pick (lv' := [(0, .ref 0), (1, .int x1)]) [0, 1] rfl ?_
  unfold f_X10_compare at h
  refine gb_iload_n d_X10_compare_0 rfl ?_
  refine gb_iconst (-1) d_X10_compare_1 rfl ?_
  refine gb_icmp_eq 24 d_X10_compare_2 (by decide) (fun hc => ?_) (fun hc => ?_)
  · have h := gb_it hc h
    exact t_X10_compare_24 hS  _ x1 h
  · have h := gb_if hc h
    refine gb_iload_n d_X10_compare_5 rfl ?_
    refine gb_iconst 0 d_X10_compare_6 rfl ?_
    refine gb_aload_n d_X10_compare_7 rfl ?_
    refine gb_getr (r := 1) f_X10_14 (hS 0 _ rfl) rfl d_X10_compare_8 ?_
    refine gb_geti f_X10_185 (ok_X0_1 hS).1 rfl d_X10_compare_11 ?_
    refine gb_iconst 1 d_X10_compare_14 rfl ?_
    refine gb_isub d_X10_compare_15 ?_
    obtain ⟨r7, e8, h⟩ := gb_bd_e h
    refine gb_cSi (As := [.int x1, .int 0, .int ((g.1 1 7) - 1)]) (rest := []) m_X10_115 (t_X10_within (Γ := Γ) hS e8) (Nat.le_of_ble_eq_true rfl) rfl rfl (Nat.le_of_ble_eq_true rfl) d_X10_compare_16 ?_
    refine gb_if_ne 24 d_X10_compare_19 (by decide) (fun hc => ?_) (fun hc => ?_)
    · have h := gb_if hc h
      exact t_X10_compare_24 hS  _ x1 h
    · have h := gb_it hc h
      refine gb_iconst (-1) d_X10_compare_22 rfl ?_
      cases h
      exact gb_iret d_X10_compare_23 rfl ⟨rfl, rfl, rfl⟩
-- X10_gets
noncomputable def f_X10_gets_21 (sh : List gb_Sh) (g : gb_G)  : Option (gb_G × Int64) := some (g, (-1))
noncomputable def f_X10_gets (sh : List gb_Sh) (g : gb_G) (x1 : Int32) (x2 : Int32) : Option (gb_G × Int64) := gb_bd (f_X0_has sh g 1 x1) (fun r1 => if r1.2 = 0 then (f_X10_gets_21 sh r1.1 ) else (gb_bd (f_X10_within sh r1.1 x2 0 60) (fun r3 => if r3.2 = 0 then (f_X10_gets_21 sh r3.1 ) else (gb_bd (f_X0_read sh r3.1 1 x1 1) (fun r5 => gb_bd (f_X6_partsAtTop sh r5.1 r5.2 (r5.1.1 (1 + 4) 1) x2) (fun r7 => some (r7.1, r7.2)))))))
set_option maxRecDepth 100000 in
set_option maxHeartbeats 4000000 in
theorem t_X10_gets_21 {Γ : gb_X} {sh : List gb_Sh} {out : gb_G × Int64} (hS : gb_S sh) : ∀ (g : gb_G) , f_X10_gets_21 sh g  = some out → gb_J Γ M_X10_gets 3 (gb_Rl sh out) 0 0 sh g 21 [] [] := by
  intro g  h
  unfold f_X10_gets_21 at h
  refine gb_ldc2 (-1) k_X10_276 d_X10_gets_21 ?_
  cases h
  exact gb_lret d_X10_gets_24 rfl ⟨rfl, rfl, rfl⟩
set_option maxRecDepth 100000 in
set_option maxHeartbeats 4000000 in
theorem t_X10_gets {Γ : gb_X} {sh : List gb_Sh} {x1 : Int32} {x2 : Int32} {out : gb_G × Int64} (hS : gb_S sh) {g : gb_G} (h : f_X10_gets sh g x1 x2 = some out) : gb_C Γ M_X10_gets 3 0 0 sh g [.ref 0, .int x1, .int x2] (gb_Rl sh out) := by
  refine gb_C.of rfl (Nat.le_of_ble_eq_true rfl) ?_
  refine gb_pick (lv' := [(0, .ref 0), (1, .int x1), (2, .int x2)]) [0, 1, 2] rfl ?_
  unfold f_X10_gets at h
  refine gb_aload_n d_X10_gets_0 rfl ?_
  refine gb_getr (r := 1) f_X10_14 (hS 0 _ rfl) rfl d_X10_gets_1 ?_
  refine gb_iload_n d_X10_gets_4 rfl ?_
  obtain ⟨r1, e2, h⟩ := gb_bd_e h
  refine gb_cVi (As := [.int x1]) (rest := []) m_X10_140 (t_X0_has (Γ := Γ) hS (ok_X0_1 hS) e2) (ok_X0_1 hS).1 rfl (Nat.le_of_ble_eq_true rfl) rfl rfl (Nat.le_of_ble_eq_true rfl) d_X10_gets_5 ?_
  refine gb_if_eq 21 d_X10_gets_8 (by decide) (fun hc => ?_) (fun hc => ?_)
  · have h := gb_it hc h
    refine gb_pick (lv' := []) [] rfl ?_
    exact t_X10_gets_21 hS  _  h
  · have h := gb_if hc h
    refine gb_iload_n d_X10_gets_11 rfl ?_
    refine gb_iconst 0 d_X10_gets_12 rfl ?_
    refine gb_bipush 60 d_X10_gets_13 rfl ?_
    obtain ⟨r3, e4, h⟩ := gb_bd_e h
    refine gb_cSi (As := [.int x2, .int 0, .int 60]) (rest := []) m_X10_115 (t_X10_within (Γ := Γ) hS e4) (Nat.le_of_ble_eq_true rfl) rfl rfl (Nat.le_of_ble_eq_true rfl) d_X10_gets_15 ?_
    refine gb_if_ne 25 d_X10_gets_18 (by decide) (fun hc => ?_) (fun hc => ?_)
    · have h := gb_if hc h
      refine gb_aload_n d_X10_gets_25 rfl ?_
      refine gb_getr (r := 63) f_X10_88 (hS 0 _ rfl) rfl d_X10_gets_26 ?_
      refine gb_aload_n d_X10_gets_29 rfl ?_
      refine gb_getr (r := 1) f_X10_14 (hS 0 _ rfl) rfl d_X10_gets_30 ?_
      refine gb_iload_n d_X10_gets_33 rfl ?_
      refine gb_iconst 1 d_X10_gets_34 rfl ?_
      obtain ⟨r5, e6, h⟩ := gb_bd_e h
      refine gb_cVi (As := [.int x1, .int 1]) (rest := [.ref 63]) m_X10_136 (t_X0_read (Γ := Γ) hS (ok_X0_1 hS) e6) (ok_X0_1 hS).1 rfl (Nat.le_of_ble_eq_true rfl) rfl rfl (Nat.le_of_ble_eq_true rfl) d_X10_gets_35 ?_
      refine gb_aload_n d_X10_gets_38 rfl ?_
      refine gb_getr (r := 1) f_X10_14 (hS 0 _ rfl) rfl d_X10_gets_39 ?_
      refine gb_getr (r := (1 + 4)) f_X10_169 (ok_X0_1 hS).1 rfl d_X10_gets_42 ?_
      refine gb_iconst 1 d_X10_gets_45 rfl ?_
      refine gb_iald_ 1 rfl (ok_X0_1 hS).2.2.2.2.1 (by unfold vp_in; decide) d_X10_gets_46 ?_
      refine gb_iload_n d_X10_gets_47 rfl ?_
      obtain ⟨r7, e8, h⟩ := gb_bd_e h
      refine gb_cVl (As := [.int r5.2, .int (r5.1.1 (1 + 4) 1), .int x2]) (rest := []) m_X10_345 (t_X6_partsAtTop (Γ := Γ) hS e8) (hS 63 _ rfl) rfl (Nat.le_of_ble_eq_true rfl) rfl rfl (Nat.le_of_ble_eq_true rfl) d_X10_gets_48 ?_
      cases h
      exact gb_lret d_X10_gets_51 rfl ⟨rfl, rfl, rfl⟩
    · have h := gb_it hc h
      refine gb_pick (lv' := []) [] rfl ?_
      exact t_X10_gets_21 hS  _  h
-- J9_floorMod_7cf53
noncomputable def f_J9_floorMod_7cf53 (sh : List gb_Sh) (g : gb_G) (x1 : Int32) (x2 : Int32) : Option (gb_G × Int32) := gb_nz x2 (if 0 ≤ (x1 ^^^ x2) then (some (g, (gb_rem x1 x2))) else (if (gb_rem x1 x2) = 0 then (some (g, (gb_rem x1 x2))) else (some (g, ((gb_rem x1 x2) + x2)))))
set_option maxRecDepth 100000 in
set_option maxHeartbeats 4000000 in
theorem t_J9_floorMod_7cf53 {Γ : gb_X} {sh : List gb_Sh} {x1 : Int32} {x2 : Int32} {out : gb_G × Int32} (hS : gb_S sh) {g : gb_G} (h : f_J9_floorMod_7cf53 sh g x1 x2 = some out) : gb_C Γ M_J9_floorMod_7cf53 0 0 0 sh g [.int x1, .int x2] (gb_Ri sh out) := by
  refine gb_C.ofF (by decide +kernel) (Nat.le_of_ble_eq_true rfl) ?_
  refine gb_pick (lv' := [(0, .int x1), (1, .int x2)]) [0, 1] rfl ?_
  unfold f_J9_floorMod_7cf53 at h
  refine gb_iload_n d_J9_floorMod_7cf53_0 rfl ?_
  refine gb_iload_n d_J9_floorMod_7cf53_1 rfl ?_
  obtain ⟨hn1, h⟩ := gb_nz_e h
  refine gb_rem_ d_J9_floorMod_7cf53_2 hn1 ?_
  refine gb_istore_n [(2, .int (gb_rem x1 x2)), (0, .int x1), (1, .int x2)] d_J9_floorMod_7cf53_3 (Nat.le_of_ble_eq_true rfl) rfl ?_
  refine gb_iload_n d_J9_floorMod_7cf53_4 rfl ?_
  refine gb_iload_n d_J9_floorMod_7cf53_5 rfl ?_
  refine gb_ixor d_J9_floorMod_7cf53_6 ?_
  refine gb_if_ge 18 d_J9_floorMod_7cf53_7 (by decide) (fun hc => ?_) (fun hc => ?_)
  · have h := gb_it hc h
    refine gb_iload_n d_J9_floorMod_7cf53_18 rfl ?_
    cases h
    exact gb_iret d_J9_floorMod_7cf53_19 rfl ⟨rfl, rfl, rfl⟩
  · have h := gb_if hc h
    refine gb_iload_n d_J9_floorMod_7cf53_10 rfl ?_
    refine gb_if_eq 18 d_J9_floorMod_7cf53_11 (by decide) (fun hc => ?_) (fun hc => ?_)
    · have h := gb_it hc h
      refine gb_iload_n d_J9_floorMod_7cf53_18 rfl ?_
      cases h
      exact gb_iret d_J9_floorMod_7cf53_19 rfl ⟨rfl, rfl, rfl⟩
    · have h := gb_if hc h
      refine gb_iload_n d_J9_floorMod_7cf53_14 rfl ?_
      refine gb_iload_n d_J9_floorMod_7cf53_15 rfl ?_
      refine gb_iadd d_J9_floorMod_7cf53_16 ?_
      cases h
      exact gb_iret d_J9_floorMod_7cf53_17 rfl ⟨rfl, rfl, rfl⟩
-- X10_nextDraw
noncomputable def f_X10_nextDraw (sh : List gb_Sh) (g : gb_G) (x1 : Int32) : Option (gb_G × Int32) := some (g, (gb_reml ((x1.toInt64 * 1103) + 12345) 1000003).toInt32)
set_option maxRecDepth 100000 in
set_option maxHeartbeats 4000000 in
theorem t_X10_nextDraw {Γ : gb_X} {sh : List gb_Sh} {x1 : Int32} {out : gb_G × Int32} (hS : gb_S sh) {g : gb_G} (h : f_X10_nextDraw sh g x1 = some out) : gb_C Γ M_X10_nextDraw 0 0 0 sh g [.int x1] (gb_Ri sh out) := by
  refine gb_C.of rfl (Nat.le_of_ble_eq_true rfl) ?_
  refine gb_pick (lv' := [(0, .int x1)]) [0] rfl ?_
  unfold f_X10_nextDraw at h
  refine gb_iload_n d_X10_nextDraw_0 rfl ?_
  refine gb_i2l d_X10_nextDraw_1 ?_
  refine gb_ldc2 1103 k_X10_360 d_X10_nextDraw_2 ?_
  refine gb_lmul d_X10_nextDraw_5 ?_
  refine gb_ldc2 12345 k_X10_362 d_X10_nextDraw_6 ?_
  refine gb_ladd d_X10_nextDraw_9 ?_
  refine gb_ldc2 1000003 k_X10_364 d_X10_nextDraw_10 ?_
  refine gb_reml_ d_X10_nextDraw_13 (by decide) ?_
  refine gb_l2i d_X10_nextDraw_14 ?_
  cases h
  exact gb_iret d_X10_nextDraw_15 rfl ⟨rfl, rfl, rfl⟩
-- X10_years
noncomputable def f_X10_years_21 (sh : List gb_Sh) (g : gb_G)  : Option (gb_G × Int32) := gb_bd (f_X10_refuse sh g (-1)) (fun r3 => some (r3.1, r3.2))
noncomputable def f_X10_years_176 (sh : List gb_Sh) (g : gb_G) (y3 : Int32) : Option (gb_G × Int32) := gb_bd (f_X10_grant sh g y3) (fun r9 => some (r9.1, r9.2))
noncomputable def f_X10_years_63 (sh : List gb_Sh) : Nat → gb_G → Int32 → Int32 → Int32 → Int32 → Option (gb_G × Int32)
  | 0, _, _, _, _, _ => none
  | n + 1, g, y2, y3, y4, y5 => if y2 ≤ y5 then (f_X10_years_176 sh g y3) else (if 999 ≤ (g.1 (13 + 4) 0) then (f_X10_years_176 sh g y3) else (gb_bd (f_X10_nextDraw sh g y4) (fun r11 => gb_bd (f_J9_max_7cf53 sh r11.1 1 (r11.1.1 13 0)) (fun r13 => gb_bd (f_J9_floorMod_7cf53 sh r13.1 r11.2 r13.2) (fun r15 => gb_bd (f_X10_nextDraw sh r15.1 r11.2) (fun r17 => gb_bd (f_X0_befall sh r17.1 13 r15.2 (gb_rem r17.2 4)) (fun r19 => gb_bd (f_X4_moveAll sh r19 13) (fun r21 => gb_bd (f_X0_lawInForce sh r21 13) (fun r23 => gb_bd (f_X1_load sh r23.1 13 r23.2) (fun r25 => gb_bd (f_X1_hundredths sh r25) (fun r27 => gb_bd (f_J9_max_7cf53 sh r27.1 y3 r27.2) (fun r29 => f_X10_years_63 sh n r29.1 y2 r29.2 r17.2 (y5 + 1)))))))))))))
noncomputable def f_X10_years (sh : List gb_Sh) (g : gb_G) (x1 : Int32) (x2 : Int32) : Option (gb_G × Int32) := gb_bd (f_X10_within sh g x1 0 1000000) (fun r1 => if r1.2 = 0 then (f_X10_years_21 sh r1.1 ) else (gb_bd (f_X10_within sh r1.1 x2 1 60) (fun r5 => if r5.2 = 0 then (f_X10_years_21 sh r5.1 ) else (if (r5.1.1 1 0) = 0 then (gb_bd (f_X10_refuse sh r5.1 (-3)) (fun r31 => some (r31.1, r31.2))) else (gb_bd (f_X0_copyFrom sh r5.1 13 1) (fun r7 => f_X10_years_63 sh gb_N r7 x2 0 x1 0))))))
set_option maxRecDepth 100000 in
set_option maxHeartbeats 4000000 in
theorem t_X10_years_21 {Γ : gb_X} {sh : List gb_Sh} {out : gb_G × Int32} (hS : gb_S sh) : ∀ (g : gb_G) , f_X10_years_21 sh g  = some out → gb_J Γ M_X10_years 4 (gb_Ri sh out) 0 0 sh g 21 [(0, .ref 0)] [] := by
  intro g  h
  unfold f_X10_years_21 at h
  refine gb_aload_n d_X10_years_21 rfl ?_
  refine gb_iconst (-1) d_X10_years_22 rfl ?_
  obtain ⟨r3, e4, h⟩ := gb_bd_e h
  refine gb_cVi (As := [.int (-1)]) (rest := []) m_X10_119 (t_X10_refuse (Γ := Γ) hS e4) (hS 0 _ rfl) rfl (Nat.le_of_ble_eq_true rfl) rfl rfl (Nat.le_of_ble_eq_true rfl) d_X10_years_23 ?_
  cases h
  exact gb_iret d_X10_years_26 rfl ⟨rfl, rfl, rfl⟩
set_option maxRecDepth 100000 in
set_option maxHeartbeats 4000000 in
theorem t_X10_years_176 {Γ : gb_X} {sh : List gb_Sh} {out : gb_G × Int32} (hS : gb_S sh) : ∀ (g : gb_G) (y3 : Int32), f_X10_years_176 sh g y3 = some out → gb_J Γ M_X10_years 4 (gb_Ri sh out) 0 0 sh g 176 [(0, .ref 0), (3, .int y3)] [] := by
  intro g y3 h
  unfold f_X10_years_176 at h
  refine gb_aload_n d_X10_years_176 rfl ?_
  refine gb_iload_n d_X10_years_177 rfl ?_
  obtain ⟨r9, e10, h⟩ := gb_bd_e h
  refine gb_cVi (As := [.int y3]) (rest := []) m_X10_133 (t_X10_grant (Γ := Γ) hS e10) (hS 0 _ rfl) rfl (Nat.le_of_ble_eq_true rfl) rfl rfl (Nat.le_of_ble_eq_true rfl) d_X10_years_178 ?_
  cases h
  exact gb_iret d_X10_years_181 rfl ⟨rfl, rfl, rfl⟩
set_option maxRecDepth 100000 in
set_option maxHeartbeats 4000000 in
theorem t_X10_years_63 {Γ : gb_X} {sh : List gb_Sh} {out : gb_G × Int32} (hS : gb_S sh) : ∀ (n : Nat) (g : gb_G) (y2 : Int32) (y3 : Int32) (y4 : Int32) (y5 : Int32), f_X10_years_63 sh n g y2 y3 y4 y5 = some out → gb_J Γ M_X10_years 4 (gb_Ri sh out) 0 0 sh g 63 [(0, .ref 0), (2, .int y2), (3, .int y3), (4, .int y4), (5, .int y5)] [] := by
  intro n
  induction n with
  | zero => intro g y2 y3 y4 y5 h; cases h
  | succ n ih =>
    intro g y2 y3 y4 y5 h
    rw [f_X10_years_63] at h
    refine gb_iload d_X10_years_63 rfl ?_
    refine gb_iload_n d_X10_years_65 rfl ?_
    refine gb_icmp_ge 176 d_X10_years_66 (by decide) (fun hc => ?_) (fun hc => ?_)
    · have h := gb_it hc h
      refine gb_pick (lv' := [(0, .ref 0), (3, .int y3)]) [0, 2] rfl ?_
      exact t_X10_years_176 hS  _ y3 h
    · have h := gb_if hc h
      refine gb_aload_n d_X10_years_69 rfl ?_
      refine gb_getr (r := 13) f_X10_21 (hS 0 _ rfl) rfl d_X10_years_70 ?_
      refine gb_getr (r := (13 + 4)) f_X10_169 (ok_X0_13 hS).1 rfl d_X10_years_73 ?_
      refine gb_iconst 0 d_X10_years_76 rfl ?_
      refine gb_iald_ 0 rfl (ok_X0_13 hS).2.2.2.2.1 (by unfold vp_in; decide) d_X10_years_77 ?_
      refine gb_sipush 999 d_X10_years_78 rfl ?_
      refine gb_icmp_ge 176 d_X10_years_81 (by decide) (fun hc => ?_) (fun hc => ?_)
      · have h := gb_it hc h
        refine gb_pick (lv' := [(0, .ref 0), (3, .int y3)]) [0, 2] rfl ?_
        exact t_X10_years_176 hS  _ y3 h
      · have h := gb_if hc h
        refine gb_iload d_X10_years_84 rfl ?_
        obtain ⟨r11, e12, h⟩ := gb_bd_e h
        refine gb_cSi (As := [.int y4]) (rest := []) m_X10_350 (t_X10_nextDraw (Γ := Γ) hS e12) (Nat.le_of_ble_eq_true rfl) rfl rfl (Nat.le_of_ble_eq_true rfl) d_X10_years_86 ?_
        refine gb_istore [(4, .int r11.2), (0, .ref 0), (2, .int y2), (3, .int y3), (5, .int y5)] d_X10_years_89 (Nat.le_of_ble_eq_true rfl) rfl ?_
        refine gb_iload d_X10_years_91 rfl ?_
        refine gb_iconst 1 d_X10_years_93 rfl ?_
        refine gb_aload_n d_X10_years_94 rfl ?_
        refine gb_getr (r := 13) f_X10_21 (hS 0 _ rfl) rfl d_X10_years_95 ?_
        refine gb_geti f_X10_123 (ok_X0_13 hS).1 rfl d_X10_years_98 ?_
        obtain ⟨r13, e14, h⟩ := gb_bd_e h
        refine gb_cSi (As := [.int 1, .int (r11.1.1 13 0)]) (rest := [.int r11.2]) m_X10_314 (t_J9_max_7cf53 (Γ := Γ) hS e14) (Nat.le_of_ble_eq_true rfl) rfl rfl (Nat.le_of_ble_eq_true rfl) d_X10_years_101 ?_
        obtain ⟨r15, e16, h⟩ := gb_bd_e h
        refine gb_cSi (As := [.int r11.2, .int r13.2]) (rest := []) m_X10_353 (t_J9_floorMod_7cf53 (Γ := Γ) hS e16) (Nat.le_of_ble_eq_true rfl) rfl rfl (Nat.le_of_ble_eq_true rfl) d_X10_years_104 ?_
        refine gb_istore [(6, .int r15.2), (4, .int r11.2), (0, .ref 0), (2, .int y2), (3, .int y3), (5, .int y5)] d_X10_years_107 (Nat.le_of_ble_eq_true rfl) rfl ?_
        refine gb_iload d_X10_years_109 rfl ?_
        obtain ⟨r17, e18, h⟩ := gb_bd_e h
        refine gb_cSi (As := [.int r11.2]) (rest := []) m_X10_350 (t_X10_nextDraw (Γ := Γ) hS e18) (Nat.le_of_ble_eq_true rfl) rfl rfl (Nat.le_of_ble_eq_true rfl) d_X10_years_111 ?_
        refine gb_istore [(4, .int r17.2), (6, .int r15.2), (0, .ref 0), (2, .int y2), (3, .int y3), (5, .int y5)] d_X10_years_114 (Nat.le_of_ble_eq_true rfl) rfl ?_
        refine gb_aload_n d_X10_years_116 rfl ?_
        refine gb_getr (r := 13) f_X10_21 (hS 0 _ rfl) rfl d_X10_years_117 ?_
        refine gb_iload d_X10_years_120 rfl ?_
        refine gb_iload d_X10_years_122 rfl ?_
        refine gb_iconst 4 d_X10_years_124 rfl ?_
        refine gb_rem_ d_X10_years_125 (by decide) ?_
        obtain ⟨r19, e20, h⟩ := gb_bd_e h
        refine gb_cVv (As := [.int r15.2, .int (gb_rem r17.2 4)]) (rest := []) m_X10_356 (t_X0_befall (Γ := Γ) hS (ok_X0_13 hS) e20) (ok_X0_13 hS).1 rfl (Nat.le_of_ble_eq_true rfl) rfl rfl (Nat.le_of_ble_eq_true rfl) d_X10_years_126 ?_
        refine gb_aload_n d_X10_years_129 rfl ?_
        refine gb_getr (r := 54) f_X10_70 (hS 0 _ rfl) rfl d_X10_years_130 ?_
        refine gb_aload_n d_X10_years_133 rfl ?_
        refine gb_getr (r := 13) f_X10_21 (hS 0 _ rfl) rfl d_X10_years_134 ?_
        obtain ⟨r21, e22, h⟩ := gb_bd_e h
        refine gb_cVv (As := [.ref 13]) (rest := []) m_X10_263 (t_X4_moveAll (Γ := Γ) hS (ok_X0_13 hS) e22) (hS 54 _ rfl) rfl (Nat.le_of_ble_eq_true rfl) rfl rfl (Nat.le_of_ble_eq_true rfl) d_X10_years_137 ?_
        refine gb_aload_n d_X10_years_140 rfl ?_
        refine gb_getr (r := 57) f_X10_79 (hS 0 _ rfl) rfl d_X10_years_141 ?_
        refine gb_aload_n d_X10_years_144 rfl ?_
        refine gb_getr (r := 13) f_X10_21 (hS 0 _ rfl) rfl d_X10_years_145 ?_
        refine gb_aload_n d_X10_years_148 rfl ?_
        refine gb_getr (r := 13) f_X10_21 (hS 0 _ rfl) rfl d_X10_years_149 ?_
        obtain ⟨r23, e24, h⟩ := gb_bd_e h
        refine gb_cVq (As := []) (rest := [.ref 13, .ref 57]) m_X10_145 (t_X0_lawInForce (Γ := Γ) hS (ok_X0_13 hS) e24) (ok_X0_13 hS).1 rfl (Nat.le_of_ble_eq_true rfl) rfl rfl (Nat.le_of_ble_eq_true rfl) d_X10_years_152 ?_
        obtain ⟨r25, e26, h⟩ := gb_bd_e h
        refine gb_cVv (As := [.ref 13, va_rf r23.2]) (rest := []) m_X10_252 (t_X1_load (Γ := Γ) hS (ok_X0_13 hS) e26) (hS 57 _ rfl) rfl (Nat.le_of_ble_eq_true rfl) rfl rfl (Nat.le_of_ble_eq_true rfl) d_X10_years_155 ?_
        refine gb_iload_n d_X10_years_158 rfl ?_
        refine gb_aload_n d_X10_years_159 rfl ?_
        refine gb_getr (r := 57) f_X10_79 (hS 0 _ rfl) rfl d_X10_years_160 ?_
        obtain ⟨r27, e28, h⟩ := gb_bd_e h
        refine gb_cVi (As := []) (rest := [.int y3]) m_X10_256 (t_X1_hundredths (Γ := Γ) hS e28) (hS 57 _ rfl) rfl (Nat.le_of_ble_eq_true rfl) rfl rfl (Nat.le_of_ble_eq_true rfl) d_X10_years_163 ?_
        obtain ⟨r29, e30, h⟩ := gb_bd_e h
        refine gb_cSi (As := [.int y3, .int r27.2]) (rest := []) m_X10_314 (t_J9_max_7cf53 (Γ := Γ) hS e30) (Nat.le_of_ble_eq_true rfl) rfl rfl (Nat.le_of_ble_eq_true rfl) d_X10_years_166 ?_
        refine gb_istore_n [(3, .int r29.2), (4, .int r17.2), (6, .int r15.2), (0, .ref 0), (2, .int y2), (5, .int y5)] d_X10_years_169 (Nat.le_of_ble_eq_true rfl) rfl ?_
        refine gb_iinc (y5 + 1) [(5, .int (y5 + 1)), (3, .int r29.2), (4, .int r17.2), (6, .int r15.2), (0, .ref 0), (2, .int y2)] d_X10_years_170 (Nat.le_of_ble_eq_true rfl) rfl rfl rfl ?_
        refine gb_goto 63 d_X10_years_173 (by decide) ?_
        refine gb_pick (lv' := [(0, .ref 0), (2, .int y2), (3, .int r29.2), (4, .int r17.2), (5, .int (y5 + 1))]) [4, 5, 1, 2, 0] rfl ?_
        exact ih _ y2 r29.2 r17.2 (y5 + 1) h
set_option maxRecDepth 100000 in
set_option maxHeartbeats 4000000 in
theorem t_X10_years {Γ : gb_X} {sh : List gb_Sh} {x1 : Int32} {x2 : Int32} {out : gb_G × Int32} (hS : gb_S sh) {g : gb_G} (h : f_X10_years sh g x1 x2 = some out) : gb_C Γ M_X10_years 4 0 0 sh g [.ref 0, .int x1, .int x2] (gb_Ri sh out) := by
  refine gb_C.of rfl (Nat.le_of_ble_eq_true rfl) ?_
  refine gb_pick (lv' := [(0, .ref 0), (1, .int x1), (2, .int x2)]) [0, 1, 2] rfl ?_
  unfold f_X10_years at h
  refine gb_iload_n d_X10_years_0 rfl ?_
  refine gb_iconst 0 d_X10_years_1 rfl ?_
  refine gb_ldcw 1000000 k_X10_349 d_X10_years_2 ?_
  obtain ⟨r1, e2, h⟩ := gb_bd_e h
  refine gb_cSi (As := [.int x1, .int 0, .int 1000000]) (rest := []) m_X10_115 (t_X10_within (Γ := Γ) hS e2) (Nat.le_of_ble_eq_true rfl) rfl rfl (Nat.le_of_ble_eq_true rfl) d_X10_years_5 ?_
  refine gb_if_eq 21 d_X10_years_8 (by decide) (fun hc => ?_) (fun hc => ?_)
  · have h := gb_it hc h
    refine gb_pick (lv' := [(0, .ref 0)]) [0] rfl ?_
    exact t_X10_years_21 hS  _  h
  · have h := gb_if hc h
    refine gb_iload_n d_X10_years_11 rfl ?_
    refine gb_iconst 1 d_X10_years_12 rfl ?_
    refine gb_bipush 60 d_X10_years_13 rfl ?_
    obtain ⟨r5, e6, h⟩ := gb_bd_e h
    refine gb_cSi (As := [.int x2, .int 1, .int 60]) (rest := []) m_X10_115 (t_X10_within (Γ := Γ) hS e6) (Nat.le_of_ble_eq_true rfl) rfl rfl (Nat.le_of_ble_eq_true rfl) d_X10_years_15 ?_
    refine gb_if_ne 27 d_X10_years_18 (by decide) (fun hc => ?_) (fun hc => ?_)
    · have h := gb_if hc h
      refine gb_aload_n d_X10_years_27 rfl ?_
      refine gb_getr (r := 1) f_X10_14 (hS 0 _ rfl) rfl d_X10_years_28 ?_
      refine gb_geti f_X10_123 (ok_X0_1 hS).1 rfl d_X10_years_31 ?_
      refine gb_if_ne 44 d_X10_years_34 (by decide) (fun hc => ?_) (fun hc => ?_)
      · have h := gb_if hc h
        refine gb_aload_n d_X10_years_44 rfl ?_
        refine gb_getr (r := 13) f_X10_21 (hS 0 _ rfl) rfl d_X10_years_45 ?_
        refine gb_aload_n d_X10_years_48 rfl ?_
        refine gb_getr (r := 1) f_X10_14 (hS 0 _ rfl) rfl d_X10_years_49 ?_
        obtain ⟨r7, e8, h⟩ := gb_bd_e h
        refine gb_cVv (As := [.ref 1]) (rest := []) m_X10_204 (t_X0_copyFrom (Γ := Γ) hS (ok_X0_13 hS) (ok_X0_1 hS) e8) (ok_X0_13 hS).1 rfl (Nat.le_of_ble_eq_true rfl) rfl rfl (Nat.le_of_ble_eq_true rfl) d_X10_years_52 ?_
        refine gb_iconst 0 d_X10_years_55 rfl ?_
        refine gb_istore_n [(3, .int 0), (0, .ref 0), (1, .int x1), (2, .int x2)] d_X10_years_56 (Nat.le_of_ble_eq_true rfl) rfl ?_
        refine gb_iload_n d_X10_years_57 rfl ?_
        refine gb_istore [(4, .int x1), (3, .int 0), (0, .ref 0), (1, .int x1), (2, .int x2)] d_X10_years_58 (Nat.le_of_ble_eq_true rfl) rfl ?_
        refine gb_iconst 0 d_X10_years_60 rfl ?_
        refine gb_istore [(5, .int 0), (4, .int x1), (3, .int 0), (0, .ref 0), (1, .int x1), (2, .int x2)] d_X10_years_61 (Nat.le_of_ble_eq_true rfl) rfl ?_
        refine gb_pick (lv' := [(0, .ref 0), (2, .int x2), (3, .int 0), (4, .int x1), (5, .int 0)]) [3, 5, 2, 1, 0] rfl ?_
        exact t_X10_years_63 hS  gb_N _ x2 0 x1 0 h
      · have h := gb_it hc h
        refine gb_aload_n d_X10_years_37 rfl ?_
        refine gb_bipush (-3) d_X10_years_38 rfl ?_
        obtain ⟨r31, e32, h⟩ := gb_bd_e h
        refine gb_cVi (As := [.int (-3)]) (rest := []) m_X10_119 (t_X10_refuse (Γ := Γ) hS e32) (hS 0 _ rfl) rfl (Nat.le_of_ble_eq_true rfl) rfl rfl (Nat.le_of_ble_eq_true rfl) d_X10_years_40 ?_
        cases h
        exact gb_iret d_X10_years_43 rfl ⟨rfl, rfl, rfl⟩
    · have h := gb_it hc h
      refine gb_pick (lv' := [(0, .ref 0)]) [0] rfl ?_
      exact t_X10_years_21 hS  _  h
-- X10_drawn
noncomputable def f_X10_drawn_25 (sh : List gb_Sh) (g : gb_G) (z0 : Int32) (z1 : Int32) : Option (gb_G × Int32) := gb_bd (f_X0_read sh g 13 z1 z0) (fun r3 => some (r3.1, r3.2))
noncomputable def f_X10_drawn (sh : List gb_Sh) (g : gb_G) (x1 : Int32) (x2 : Int32) : Option (gb_G × Int32) := gb_bd (f_X10_within sh g x2 0 1) (fun r1 => if r1.2 = 0 then (some (r1.1, (-1))) else (if x2 = 0 then (f_X10_drawn_25 sh r1.1 1 x1) else (f_X10_drawn_25 sh r1.1 5 x1)))
set_option maxRecDepth 100000 in
set_option maxHeartbeats 4000000 in
theorem t_X10_drawn_25 {Γ : gb_X} {sh : List gb_Sh} {out : gb_G × Int32} (hS : gb_S sh) : ∀ (g : gb_G) (z0 : Int32) (z1 : Int32), f_X10_drawn_25 sh g z0 z1 = some out → gb_J Γ M_X10_drawn 1 (gb_Ri sh out) 0 0 sh g 25 [] [.int z0, .int z1, .ref 13] := by
  intro g z0 z1 h
  unfold f_X10_drawn_25 at h
  obtain ⟨r3, e4, h⟩ := gb_bd_e h
  refine gb_cVi (As := [.int z1, .int z0]) (rest := []) m_X10_136 (t_X0_read (Γ := Γ) hS (ok_X0_13 hS) e4) (ok_X0_13 hS).1 rfl (Nat.le_of_ble_eq_true rfl) rfl rfl (Nat.le_of_ble_eq_true rfl) d_X10_drawn_25 ?_
  cases h
  exact gb_iret d_X10_drawn_28 rfl ⟨rfl, rfl, rfl⟩
set_option maxRecDepth 100000 in
set_option maxHeartbeats 4000000 in
theorem t_X10_drawn {Γ : gb_X} {sh : List gb_Sh} {x1 : Int32} {x2 : Int32} {out : gb_G × Int32} (hS : gb_S sh) {g : gb_G} (h : f_X10_drawn sh g x1 x2 = some out) : gb_C Γ M_X10_drawn 1 0 0 sh g [.ref 0, .int x1, .int x2] (gb_Ri sh out) := by
  refine gb_C.of rfl (Nat.le_of_ble_eq_true rfl) ?_
  refine gb_pick (lv' := [(0, .ref 0), (1, .int x1), (2, .int x2)]) [0, 1, 2] rfl ?_
  unfold f_X10_drawn at h
  refine gb_iload_n d_X10_drawn_0 rfl ?_
  refine gb_iconst 0 d_X10_drawn_1 rfl ?_
  refine gb_iconst 1 d_X10_drawn_2 rfl ?_
  obtain ⟨r1, e2, h⟩ := gb_bd_e h
  refine gb_cSi (As := [.int x2, .int 0, .int 1]) (rest := []) m_X10_115 (t_X10_within (Γ := Γ) hS e2) (Nat.le_of_ble_eq_true rfl) rfl rfl (Nat.le_of_ble_eq_true rfl) d_X10_drawn_3 ?_
  refine gb_if_ne 11 d_X10_drawn_6 (by decide) (fun hc => ?_) (fun hc => ?_)
  · have h := gb_if hc h
    refine gb_aload_n d_X10_drawn_11 rfl ?_
    refine gb_getr (r := 13) f_X10_21 (hS 0 _ rfl) rfl d_X10_drawn_12 ?_
    refine gb_iload_n d_X10_drawn_15 rfl ?_
    refine gb_iload_n d_X10_drawn_16 rfl ?_
    refine gb_if_ne 24 d_X10_drawn_17 (by decide) (fun hc => ?_) (fun hc => ?_)
    · have h := gb_if hc h
      refine gb_iconst 5 d_X10_drawn_24 rfl ?_
      refine gb_pick (lv' := []) [] rfl ?_
      exact t_X10_drawn_25 hS  _ 5 x1 h
    · have h := gb_it hc h
      refine gb_iconst 1 d_X10_drawn_20 rfl ?_
      refine gb_goto 25 d_X10_drawn_21 (by decide) ?_
      refine gb_pick (lv' := []) [] rfl ?_
      exact t_X10_drawn_25 hS  _ 1 x1 h
  · have h := gb_it hc h
    refine gb_iconst (-1) d_X10_drawn_9 rfl ?_
    cases h
    exact gb_iret d_X10_drawn_10 rfl ⟨rfl, rfl, rfl⟩
-- X10_image
noncomputable def f_X10_image (sh : List gb_Sh) (g : gb_G) (x1 : Int32) : Option (gb_G × Int32) := gb_bd (f_X10_within sh g x1 0 1) (fun r1 => if r1.2 = 0 then (gb_bd (f_X10_refuse sh r1.1 (-1)) (fun r13 => some (r13.1, r13.2))) else (gb_ck x1 2 (gb_bd (r1.1.2.2 19 x1.toNatClampNeg) (fun p4 => gb_gdX0 sh p4 (gb_bd (f_X0_copyFrom sh r1.1 p4 1) (fun r7 => gb_ck x1 2 (gb_let (gb_pi r7 32 x1.toNatClampNeg 1) (fun g10 => gb_bd (f_X10_grant sh g10 0) (fun r11 => some (r11.1, r11.2))))))))))
set_option maxRecDepth 100000 in
set_option maxHeartbeats 4000000 in
theorem t_X10_image {Γ : gb_X} {sh : List gb_Sh} {x1 : Int32} {out : gb_G × Int32} (hS : gb_S sh) {g : gb_G} (h : f_X10_image sh g x1 = some out) : gb_C Γ M_X10_image 2 0 0 sh g [.ref 0, .int x1] (gb_Ri sh out) := by
  refine gb_C.of rfl (Nat.le_of_ble_eq_true rfl) ?_
  refine gb_pick (lv' := [(0, .ref 0), (1, .int x1)]) [0, 1] rfl ?_
  unfold f_X10_image at h
  refine gb_iload_n d_X10_image_0 rfl ?_
  refine gb_iconst 0 d_X10_image_1 rfl ?_
  refine gb_iconst 1 d_X10_image_2 rfl ?_
  obtain ⟨r1, e2, h⟩ := gb_bd_e h
  refine gb_cSi (As := [.int x1, .int 0, .int 1]) (rest := []) m_X10_115 (t_X10_within (Γ := Γ) hS e2) (Nat.le_of_ble_eq_true rfl) rfl rfl (Nat.le_of_ble_eq_true rfl) d_X10_image_3 ?_
  refine gb_if_ne 15 d_X10_image_6 (by decide) (fun hc => ?_) (fun hc => ?_)
  · have h := gb_if hc h
    refine gb_aload_n d_X10_image_15 rfl ?_
    refine gb_getr (r := 19) f_X10_24 (hS 0 _ rfl) rfl d_X10_image_16 ?_
    refine gb_iload_n d_X10_image_19 rfl ?_
    obtain ⟨hi3, h⟩ := gb_ck_e h
    refine gb_aald_ x1.toNatClampNeg rfl (by decide) (hS 19 _ rfl) hi3 d_X10_image_20 ?_
    refine gb_aload_n d_X10_image_21 rfl ?_
    refine gb_getr (r := 1) f_X10_14 (hS 0 _ rfl) rfl d_X10_image_22 ?_
    obtain ⟨p4, ep5, h⟩ := gb_bd_e h
    rw [ep5]
    obtain ⟨hp6, h⟩ := gb_gdX0_e h
    obtain ⟨r7, e8, h⟩ := gb_bd_e h
    refine gb_cVv (As := [.ref 1]) (rest := []) m_X10_204 (t_X0_copyFrom (Γ := Γ) hS hp6 (ok_X0_1 hS) e8) hp6.1 rfl (Nat.le_of_ble_eq_true rfl) rfl rfl (Nat.le_of_ble_eq_true rfl) d_X10_image_25 ?_
    refine gb_aload_n d_X10_image_28 rfl ?_
    refine gb_getr (r := 32) f_X10_28 (hS 0 _ rfl) rfl d_X10_image_29 ?_
    refine gb_iload_n d_X10_image_32 rfl ?_
    refine gb_iconst 1 d_X10_image_33 rfl ?_
    obtain ⟨hi9, h⟩ := gb_ck_e h
    refine gb_iast_ x1.toNatClampNeg rfl (hS 32 _ rfl) hi9 d_X10_image_34 ?_
    have h := gb_let_e h
    generalize gb_pi r7 32 x1.toNatClampNeg 1 = g10 at h ⊢
    refine gb_aload_n d_X10_image_35 rfl ?_
    refine gb_iconst 0 d_X10_image_36 rfl ?_
    obtain ⟨r11, e12, h⟩ := gb_bd_e h
    refine gb_cVi (As := [.int 0]) (rest := []) m_X10_133 (t_X10_grant (Γ := Γ) hS e12) (hS 0 _ rfl) rfl (Nat.le_of_ble_eq_true rfl) rfl rfl (Nat.le_of_ble_eq_true rfl) d_X10_image_37 ?_
    cases h
    exact gb_iret d_X10_image_40 rfl ⟨rfl, rfl, rfl⟩
  · have h := gb_it hc h
    refine gb_aload_n d_X10_image_9 rfl ?_
    refine gb_iconst (-1) d_X10_image_10 rfl ?_
    obtain ⟨r13, e14, h⟩ := gb_bd_e h
    refine gb_cVi (As := [.int (-1)]) (rest := []) m_X10_119 (t_X10_refuse (Γ := Γ) hS e14) (hS 0 _ rfl) rfl (Nat.le_of_ble_eq_true rfl) rfl rfl (Nat.le_of_ble_eq_true rfl) d_X10_image_11 ?_
    cases h
    exact gb_iret d_X10_image_14 rfl ⟨rfl, rfl, rfl⟩
-- X10_back
noncomputable def f_X10_back (sh : List gb_Sh) (g : gb_G) (x1 : Int32) : Option (gb_G × Int32) := gb_bd (f_X10_within sh g x1 0 1) (fun r1 => if r1.2 = 0 then (gb_bd (f_X10_refuse sh r1.1 (-1)) (fun r16 => some (r16.1, r16.2))) else (gb_ck x1 2 (if (r1.1.1 32 x1.toNatClampNeg) = 0 then (gb_bd (f_X10_refuse sh r1.1 (-2)) (fun r14 => some (r14.1, r14.2))) else (gb_ck x1 2 (gb_bd (r1.1.2.2 19 x1.toNatClampNeg) (fun p5 => gb_gdX0 sh p5 (gb_bd (f_X0_copyFrom sh r1.1 1 p5) (fun r8 => gb_bd (f_X3_clear sh r8 33) (fun r10 => gb_bd (f_X10_grant sh r10 0) (fun r12 => some (r12.1, r12.2)))))))))))
set_option maxRecDepth 100000 in
set_option maxHeartbeats 4000000 in
theorem t_X10_back {Γ : gb_X} {sh : List gb_Sh} {x1 : Int32} {out : gb_G × Int32} (hS : gb_S sh) {g : gb_G} (h : f_X10_back sh g x1 = some out) : gb_C Γ M_X10_back 2 0 0 sh g [.ref 0, .int x1] (gb_Ri sh out) := by
  refine gb_C.of rfl (Nat.le_of_ble_eq_true rfl) ?_
  refine gb_pick (lv' := [(0, .ref 0), (1, .int x1)]) [0, 1] rfl ?_
  unfold f_X10_back at h
  refine gb_iload_n d_X10_back_0 rfl ?_
  refine gb_iconst 0 d_X10_back_1 rfl ?_
  refine gb_iconst 1 d_X10_back_2 rfl ?_
  obtain ⟨r1, e2, h⟩ := gb_bd_e h
  refine gb_cSi (As := [.int x1, .int 0, .int 1]) (rest := []) m_X10_115 (t_X10_within (Γ := Γ) hS e2) (Nat.le_of_ble_eq_true rfl) rfl rfl (Nat.le_of_ble_eq_true rfl) d_X10_back_3 ?_
  refine gb_if_ne 15 d_X10_back_6 (by decide) (fun hc => ?_) (fun hc => ?_)
  · have h := gb_if hc h
    refine gb_aload_n d_X10_back_15 rfl ?_
    refine gb_getr (r := 32) f_X10_28 (hS 0 _ rfl) rfl d_X10_back_16 ?_
    refine gb_iload_n d_X10_back_19 rfl ?_
    obtain ⟨hi3, h⟩ := gb_ck_e h
    refine gb_iald_ x1.toNatClampNeg rfl (hS 32 _ rfl) hi3 d_X10_back_20 ?_
    refine gb_if_ne 31 d_X10_back_21 (by decide) (fun hc => ?_) (fun hc => ?_)
    · have h := gb_if hc h
      refine gb_aload_n d_X10_back_31 rfl ?_
      refine gb_getr (r := 1) f_X10_14 (hS 0 _ rfl) rfl d_X10_back_32 ?_
      refine gb_aload_n d_X10_back_35 rfl ?_
      refine gb_getr (r := 19) f_X10_24 (hS 0 _ rfl) rfl d_X10_back_36 ?_
      refine gb_iload_n d_X10_back_39 rfl ?_
      obtain ⟨hi4, h⟩ := gb_ck_e h
      refine gb_aald_ x1.toNatClampNeg rfl (by decide) (hS 19 _ rfl) hi4 d_X10_back_40 ?_
      obtain ⟨p5, ep6, h⟩ := gb_bd_e h
      rw [ep6]
      obtain ⟨hp7, h⟩ := gb_gdX0_e h
      obtain ⟨r8, e9, h⟩ := gb_bd_e h
      refine gb_cVv (As := [.ref p5]) (rest := []) m_X10_204 (t_X0_copyFrom (Γ := Γ) hS (ok_X0_1 hS) hp7 e9) (ok_X0_1 hS).1 rfl (Nat.le_of_ble_eq_true rfl) rfl rfl (Nat.le_of_ble_eq_true rfl) d_X10_back_41 ?_
      refine gb_aload_n d_X10_back_44 rfl ?_
      refine gb_getr (r := 33) f_X10_35 (hS 0 _ rfl) rfl d_X10_back_45 ?_
      obtain ⟨r10, e11, h⟩ := gb_bd_e h
      refine gb_cVv (As := []) (rest := []) m_X10_126 (t_X3_clear (Γ := Γ) hS (ok_X3_33 hS) e11) (ok_X3_33 hS).1 rfl (Nat.le_of_ble_eq_true rfl) rfl rfl (Nat.le_of_ble_eq_true rfl) d_X10_back_48 ?_
      refine gb_aload_n d_X10_back_51 rfl ?_
      refine gb_iconst 0 d_X10_back_52 rfl ?_
      obtain ⟨r12, e13, h⟩ := gb_bd_e h
      refine gb_cVi (As := [.int 0]) (rest := []) m_X10_133 (t_X10_grant (Γ := Γ) hS e13) (hS 0 _ rfl) rfl (Nat.le_of_ble_eq_true rfl) rfl rfl (Nat.le_of_ble_eq_true rfl) d_X10_back_53 ?_
      cases h
      exact gb_iret d_X10_back_56 rfl ⟨rfl, rfl, rfl⟩
    · have h := gb_it hc h
      refine gb_aload_n d_X10_back_24 rfl ?_
      refine gb_bipush (-2) d_X10_back_25 rfl ?_
      obtain ⟨r14, e15, h⟩ := gb_bd_e h
      refine gb_cVi (As := [.int (-2)]) (rest := []) m_X10_119 (t_X10_refuse (Γ := Γ) hS e15) (hS 0 _ rfl) rfl (Nat.le_of_ble_eq_true rfl) rfl rfl (Nat.le_of_ble_eq_true rfl) d_X10_back_27 ?_
      cases h
      exact gb_iret d_X10_back_30 rfl ⟨rfl, rfl, rfl⟩
  · have h := gb_it hc h
    refine gb_aload_n d_X10_back_9 rfl ?_
    refine gb_iconst (-1) d_X10_back_10 rfl ?_
    obtain ⟨r16, e17, h⟩ := gb_bd_e h
    refine gb_cVi (As := [.int (-1)]) (rest := []) m_X10_119 (t_X10_refuse (Γ := Γ) hS e17) (hS 0 _ rfl) rfl (Nat.le_of_ble_eq_true rfl) rfl rfl (Nat.le_of_ble_eq_true rfl) d_X10_back_11 ?_
    cases h
    exact gb_iret d_X10_back_14 rfl ⟨rfl, rfl, rfl⟩
-- X10_count
noncomputable def f_X10_count (sh : List gb_Sh) (g : gb_G) (x1 : Int32) : Option (gb_G × Int32) := if x1 = 0 then (some (g, (g.1 1 0))) else if x1 = 1 then (gb_bd (f_X0_lackingCount sh g 1) (fun r3 => some (r3.1, r3.2))) else if x1 = 2 then (some (g, (g.1 1 2))) else if x1 = 3 then (some (g, (g.1 1 4))) else if x1 = 4 then (some (g, (g.1 1 7))) else if x1 = 5 then (some (g, (g.1 33 0))) else if x1 = 6 then (some (g, (g.1 43 1))) else if x1 = 7 then (some (g, (g.1 76 1))) else if x1 = 8 then (some (g, (g.1 76 2))) else if x1 = 9 then (some (g, (g.1 76 3))) else if x1 = 10 then (some (g, (g.1 76 5))) else if x1 = 11 then (some (g, (g.1 76 6))) else if x1 = 12 then (some (g, (g.1 1 9))) else (gb_bd (f_X10_within sh g x1 13 15) (fun r16 => if r16.2 = 0 then (some (r16.1, (-1))) else (gb_ck (x1 - 13) 3 (some (r16.1, (r16.1.1 (1 + 4) ((x1 - 13).toNatClampNeg)))))))
set_option maxRecDepth 100000 in
set_option maxHeartbeats 4000000 in
theorem t_X10_count {Γ : gb_X} {sh : List gb_Sh} {x1 : Int32} {out : gb_G × Int32} (hS : gb_S sh) {g : gb_G} (h : f_X10_count sh g x1 = some out) : gb_C Γ M_X10_count 2 0 0 sh g [.ref 0, .int x1] (gb_Ri sh out) := by
  refine gb_C.of rfl (Nat.le_of_ble_eq_true rfl) ?_
  refine gb_pick (lv' := [(0, .ref 0), (1, .int x1)]) [0, 1] rfl ?_
  unfold f_X10_count at h
  refine gb_iload_n d_X10_count_0 rfl ?_
  by_cases hc1 : x1 = 0
  · have h := gb_it hc1 h
    refine gb_tabI 68 hc1 d_X10_count_1 (by decide) (by decide) rfl (by decide) ?_
    refine gb_aload_n d_X10_count_68 rfl ?_
    refine gb_getr (r := 1) f_X10_14 (hS 0 _ rfl) rfl d_X10_count_69 ?_
    refine gb_geti f_X10_123 (ok_X0_1 hS).1 rfl d_X10_count_72 ?_
    cases h
    exact gb_iret d_X10_count_75 rfl ⟨rfl, rfl, rfl⟩
  replace h := gb_if hc1 h
  by_cases hc2 : x1 = 1
  · have h := gb_it hc2 h
    refine gb_tabI 76 hc2 d_X10_count_1 (by decide) (by decide) rfl (by decide) ?_
    refine gb_aload_n d_X10_count_76 rfl ?_
    refine gb_getr (r := 1) f_X10_14 (hS 0 _ rfl) rfl d_X10_count_77 ?_
    obtain ⟨r3, e4, h⟩ := gb_bd_e h
    refine gb_cVi (As := []) (rest := []) m_X10_245 (t_X0_lackingCount (Γ := Γ) hS (ok_X0_1 hS) e4) (ok_X0_1 hS).1 rfl (Nat.le_of_ble_eq_true rfl) rfl rfl (Nat.le_of_ble_eq_true rfl) d_X10_count_80 ?_
    cases h
    exact gb_iret d_X10_count_83 rfl ⟨rfl, rfl, rfl⟩
  replace h := gb_if hc2 h
  by_cases hc5 : x1 = 2
  · have h := gb_it hc5 h
    refine gb_tabI 84 hc5 d_X10_count_1 (by decide) (by decide) rfl (by decide) ?_
    refine gb_aload_n d_X10_count_84 rfl ?_
    refine gb_getr (r := 1) f_X10_14 (hS 0 _ rfl) rfl d_X10_count_85 ?_
    refine gb_geti f_X10_157 (ok_X0_1 hS).1 rfl d_X10_count_88 ?_
    cases h
    exact gb_iret d_X10_count_91 rfl ⟨rfl, rfl, rfl⟩
  replace h := gb_if hc5 h
  by_cases hc6 : x1 = 3
  · have h := gb_it hc6 h
    refine gb_tabI 92 hc6 d_X10_count_1 (by decide) (by decide) rfl (by decide) ?_
    refine gb_aload_n d_X10_count_92 rfl ?_
    refine gb_getr (r := 1) f_X10_14 (hS 0 _ rfl) rfl d_X10_count_93 ?_
    refine gb_geti f_X10_322 (ok_X0_1 hS).1 rfl d_X10_count_96 ?_
    cases h
    exact gb_iret d_X10_count_99 rfl ⟨rfl, rfl, rfl⟩
  replace h := gb_if hc6 h
  by_cases hc7 : x1 = 4
  · have h := gb_it hc7 h
    refine gb_tabI 100 hc7 d_X10_count_1 (by decide) (by decide) rfl (by decide) ?_
    refine gb_aload_n d_X10_count_100 rfl ?_
    refine gb_getr (r := 1) f_X10_14 (hS 0 _ rfl) rfl d_X10_count_101 ?_
    refine gb_geti f_X10_185 (ok_X0_1 hS).1 rfl d_X10_count_104 ?_
    cases h
    exact gb_iret d_X10_count_107 rfl ⟨rfl, rfl, rfl⟩
  replace h := gb_if hc7 h
  by_cases hc8 : x1 = 5
  · have h := gb_it hc8 h
    refine gb_tabI 108 hc8 d_X10_count_1 (by decide) (by decide) rfl (by decide) ?_
    refine gb_aload_n d_X10_count_108 rfl ?_
    refine gb_getr (r := 33) f_X10_35 (hS 0 _ rfl) rfl d_X10_count_109 ?_
    refine gb_geti f_X10_269 (ok_X3_33 hS).1 rfl d_X10_count_112 ?_
    cases h
    exact gb_iret d_X10_count_115 rfl ⟨rfl, rfl, rfl⟩
  replace h := gb_if hc8 h
  by_cases hc9 : x1 = 6
  · have h := gb_it hc9 h
    refine gb_tabI 116 hc9 d_X10_count_1 (by decide) (by decide) rfl (by decide) ?_
    refine gb_aload_n d_X10_count_116 rfl ?_
    refine gb_getr (r := 43) f_X10_45 (hS 0 _ rfl) rfl d_X10_count_117 ?_
    refine gb_geti f_X10_172 (hS 43 _ rfl) rfl d_X10_count_120 ?_
    cases h
    exact gb_iret d_X10_count_123 rfl ⟨rfl, rfl, rfl⟩
  replace h := gb_if hc9 h
  by_cases hc10 : x1 = 7
  · have h := gb_it hc10 h
    refine gb_tabI 124 hc10 d_X10_count_1 (by decide) (by decide) rfl (by decide) ?_
    refine gb_aload_n d_X10_count_124 rfl ?_
    refine gb_getr (r := 76) f_X10_95 (hS 0 _ rfl) rfl d_X10_count_125 ?_
    refine gb_iconst 1 d_X10_count_128 rfl ?_
    refine gb_iald_ 1 rfl (hS 76 _ rfl) (by unfold vp_in; decide) d_X10_count_129 ?_
    cases h
    exact gb_iret d_X10_count_130 rfl ⟨rfl, rfl, rfl⟩
  replace h := gb_if hc10 h
  by_cases hc11 : x1 = 8
  · have h := gb_it hc11 h
    refine gb_tabI 131 hc11 d_X10_count_1 (by decide) (by decide) rfl (by decide) ?_
    refine gb_aload_n d_X10_count_131 rfl ?_
    refine gb_getr (r := 76) f_X10_95 (hS 0 _ rfl) rfl d_X10_count_132 ?_
    refine gb_iconst 2 d_X10_count_135 rfl ?_
    refine gb_iald_ 2 rfl (hS 76 _ rfl) (by unfold vp_in; decide) d_X10_count_136 ?_
    cases h
    exact gb_iret d_X10_count_137 rfl ⟨rfl, rfl, rfl⟩
  replace h := gb_if hc11 h
  by_cases hc12 : x1 = 9
  · have h := gb_it hc12 h
    refine gb_tabI 138 hc12 d_X10_count_1 (by decide) (by decide) rfl (by decide) ?_
    refine gb_aload_n d_X10_count_138 rfl ?_
    refine gb_getr (r := 76) f_X10_95 (hS 0 _ rfl) rfl d_X10_count_139 ?_
    refine gb_iconst 3 d_X10_count_142 rfl ?_
    refine gb_iald_ 3 rfl (hS 76 _ rfl) (by unfold vp_in; decide) d_X10_count_143 ?_
    cases h
    exact gb_iret d_X10_count_144 rfl ⟨rfl, rfl, rfl⟩
  replace h := gb_if hc12 h
  by_cases hc13 : x1 = 10
  · have h := gb_it hc13 h
    refine gb_tabI 145 hc13 d_X10_count_1 (by decide) (by decide) rfl (by decide) ?_
    refine gb_aload_n d_X10_count_145 rfl ?_
    refine gb_getr (r := 76) f_X10_95 (hS 0 _ rfl) rfl d_X10_count_146 ?_
    refine gb_iconst 5 d_X10_count_149 rfl ?_
    refine gb_iald_ 5 rfl (hS 76 _ rfl) (by unfold vp_in; decide) d_X10_count_150 ?_
    cases h
    exact gb_iret d_X10_count_151 rfl ⟨rfl, rfl, rfl⟩
  replace h := gb_if hc13 h
  by_cases hc14 : x1 = 11
  · have h := gb_it hc14 h
    refine gb_tabI 152 hc14 d_X10_count_1 (by decide) (by decide) rfl (by decide) ?_
    refine gb_aload_n d_X10_count_152 rfl ?_
    refine gb_getr (r := 76) f_X10_95 (hS 0 _ rfl) rfl d_X10_count_153 ?_
    refine gb_bipush 6 d_X10_count_156 rfl ?_
    refine gb_iald_ 6 rfl (hS 76 _ rfl) (by unfold vp_in; decide) d_X10_count_158 ?_
    cases h
    exact gb_iret d_X10_count_159 rfl ⟨rfl, rfl, rfl⟩
  replace h := gb_if hc14 h
  by_cases hc15 : x1 = 12
  · have h := gb_it hc15 h
    refine gb_tabI 160 hc15 d_X10_count_1 (by decide) (by decide) rfl (by decide) ?_
    refine gb_aload_n d_X10_count_160 rfl ?_
    refine gb_getr (r := 1) f_X10_14 (hS 0 _ rfl) rfl d_X10_count_161 ?_
    refine gb_geti f_X10_221 (ok_X0_1 hS).1 rfl d_X10_count_164 ?_
    cases h
    exact gb_iret d_X10_count_167 rfl ⟨rfl, rfl, rfl⟩
  replace h := gb_if hc15 h
  refine gb_tabO 168 d_X10_count_1 (gb_out 13 (by decide) (by decide) (by decide) (fun i hi => match i, hi with | 0, _ => hc1 | 1, _ => hc2 | 2, _ => hc5 | 3, _ => hc6 | 4, _ => hc7 | 5, _ => hc8 | 6, _ => hc9 | 7, _ => hc10 | 8, _ => hc11 | 9, _ => hc12 | 10, _ => hc13 | 11, _ => hc14 | 12, _ => hc15 | q + 13, h9 => absurd h9 (Nat.not_lt.mpr (Nat.le_add_left _ _)))) (by decide) ?_
  refine gb_iload_n d_X10_count_168 rfl ?_
  refine gb_bipush 13 d_X10_count_169 rfl ?_
  refine gb_bipush 15 d_X10_count_171 rfl ?_
  obtain ⟨r16, e17, h⟩ := gb_bd_e h
  refine gb_cSi (As := [.int x1, .int 13, .int 15]) (rest := []) m_X10_115 (t_X10_within (Γ := Γ) hS e17) (Nat.le_of_ble_eq_true rfl) rfl rfl (Nat.le_of_ble_eq_true rfl) d_X10_count_173 ?_
  refine gb_if_eq 194 d_X10_count_176 (by decide) (fun hc => ?_) (fun hc => ?_)
  · have h := gb_it hc h
    refine gb_iconst (-1) d_X10_count_194 rfl ?_
    cases h
    exact gb_iret d_X10_count_195 rfl ⟨rfl, rfl, rfl⟩
  · have h := gb_if hc h
    refine gb_aload_n d_X10_count_179 rfl ?_
    refine gb_getr (r := 1) f_X10_14 (hS 0 _ rfl) rfl d_X10_count_180 ?_
    refine gb_getr (r := (1 + 4)) f_X10_169 (ok_X0_1 hS).1 rfl d_X10_count_183 ?_
    refine gb_iload_n d_X10_count_186 rfl ?_
    refine gb_bipush 13 d_X10_count_187 rfl ?_
    refine gb_isub d_X10_count_189 ?_
    obtain ⟨hi18, h⟩ := gb_ck_e h
    refine gb_iald_ ((x1 - 13).toNatClampNeg) rfl (ok_X0_1 hS).2.2.2.2.1 hi18 d_X10_count_190 ?_
    refine gb_goto 195 d_X10_count_191 (by decide) ?_
    cases h
    exact gb_iret d_X10_count_195 rfl ⟨rfl, rfl, rfl⟩
-- X10_status
noncomputable def f_X10_status (sh : List gb_Sh) (g : gb_G) : Option (gb_G × Int32) := some (g, (g.1 0 18))
set_option maxRecDepth 100000 in
set_option maxHeartbeats 4000000 in
theorem t_X10_status {Γ : gb_X} {sh : List gb_Sh} {out : gb_G × Int32} (hS : gb_S sh) {g : gb_G} (h : f_X10_status sh g = some out) : gb_C Γ M_X10_status 0 0 0 sh g [.ref 0] (gb_Ri sh out) := by
  refine gb_C.of rfl (Nat.le_of_ble_eq_true rfl) ?_
  refine gb_pick (lv' := [(0, .ref 0)]) [0] rfl ?_
  unfold f_X10_status at h
  refine gb_aload_n d_X10_status_0 rfl ?_
  refine gb_geti f_X10_108 (hS 0 _ rfl) rfl d_X10_status_1 ?_
  cases h
  exact gb_iret d_X10_status_4 rfl ⟨rfl, rfl, rfl⟩
