-- X10_gets
noncomputable def f_X10_gets_21 (sh : List gb_Sh) (g : gb_G)  : Option (gb_G × Int64) := some (g, (-1))
noncomputable def f_X10_gets (sh : List gb_Sh) (g : gb_G) (x1 : Int32) (x2 : Int32) : Option (gb_G × Int64) := gb_bd (f_X0_has sh g 1 x1) (fun r1 => if r1.2 = 0 then (f_X10_gets_21 sh r1.1 ) else (gb_bd (f_X10_within sh r1.1 x2 0 60) (fun r3 => if r3.2 = 0 then (f_X10_gets_21 sh r3.1 ) else (gb_bd (f_X0_read sh r3.1 1 x1 1) (fun r5 => gb_bd (f_X6_partsAtTop sh r5.1 r5.2 (r5.1.1 (1 + 4) 1) x2) (fun r7 => some (r7.1, r7.2)))))))
set_option maxRecDepth 100000 in
set_option maxHeartbeats 4000000 in
theorem t_X10_gets_21 {Γ : gb_X} {sh : List gb_Sh} {out : gb_G × Int64} (hS : gb_S sh) : ∀ (g : gb_G) , f_X10_gets_21 sh g  = some out → gb_J Γ M_X10_gets 3 (gb_Rl sh out) 0 0 sh g 21 [] [] := by
  intro g  h
  unfold f_X10_gets_21 at h
  refine gb_ldc2 (-1) k_X10_276 d_X10_gets_21 ?_
  cases h
  exact gb_lret d_X10_gets_24 rfl ⟨rfl, rfl, rfl⟩
set_option maxRecDepth 100000 in
set_option maxHeartbeats 4000000 in
theorem t_X10_gets {Γ : gb_X} {sh : List gb_Sh} {x1 : Int32} {x2 : Int32} {out : gb_G × Int64} (hS : gb_S sh) {g : gb_G} (h : f_X10_gets sh g x1 x2 = some out) : gb_C Γ M_X10_gets 3 0 0 sh g [.ref 0, .int x1, .int x2] (gb_Rl sh out) := by
  refine gb_C.of rfl (Nat.le_of_ble_eq_true rfl) ?_
  refine gb_pick (lv' := [(0, .ref 0), (1, .int x1), (2, .int x2)]) [0, 1, 2] rfl ?_
  unfold f_X10_gets at h
  refine gb_aload_n d_X10_gets_0 rfl ?_
  refine gb_getr (r := 1) f_X10_14 (hS 0 _ rfl) rfl d_X10_gets_1 ?_
  refine gb_iload_n d_X10_gets_4 rfl ?_
  obtain ⟨r1, e2, h⟩ := gb_bd_e h
  refine gb_cVi (As := [.int x1]) (rest := []) m_X10_140 (t_X0_has (Γ := Γ) hS (ok_X0_1 hS) e2) (ok_X0_1 hS).1 rfl (Nat.le_of_ble_eq_true rfl) rfl rfl (Nat.le_of_ble_eq_true rfl) d_X10_gets_5 ?_
  refine gb_if_eq 21 d_X10_gets_8 (by decide) (fun hc => ?_) (fun hc => ?_)
  · have h := gb_it hc h
    refine gb_pick (lv' := []) [] rfl ?_
    exact t_X10_gets_21 hS  _  h
  · have h := gb_if hc h
    refine gb_iload_n d_X10_gets_11 rfl ?_
    refine gb_iconst 0 d_X10_gets_12 rfl ?_
    refine gb_bipush 60 d_X10_gets_13 rfl ?_
    obtain ⟨r3, e4, h⟩ := gb_bd_e h
    refine gb_cSi (As := [.int x2, .int 0, .int 60]) (rest := []) m_X10_115 (t_X10_within (Γ := Γ) hS e4) (Nat.le_of_ble_eq_true rfl) rfl rfl (Nat.le_of_ble_eq_true rfl) d_X10_gets_15 ?_
    refine gb_if_ne 25 d_X10_gets_18 (by decide) (fun hc => ?_) (fun hc => ?_)
    · have h := gb_if hc h
      refine gb_aload_n d_X10_gets_25 rfl ?_
      refine gb_getr (r := 63) f_X10_88 (hS 0 _ rfl) rfl d_X10_gets_26 ?_
      refine gb_aload_n d_X10_gets_29 rfl ?_
      refine gb_getr (r := 1) f_X10_14 (hS 0 _ rfl) rfl d_X10_gets_30 ?_
      refine gb_iload_n d_X10_gets_33 rfl ?_
      refine gb_iconst 1 d_X10_gets_34 rfl ?_
      obtain ⟨r5, e6, h⟩ := gb_bd_e h
      refine gb_cVi (As := [.int x1, .int 1]) (rest := [.ref 63]) m_X10_136 (t_X0_read (Γ := Γ) hS (ok_X0_1 hS) e6) (ok_X0_1 hS).1 rfl (Nat.le_of_ble_eq_true rfl) rfl rfl (Nat.le_of_ble_eq_true rfl) d_X10_gets_35 ?_
      refine gb_aload_n d_X10_gets_38 rfl ?_
      refine gb_getr (r := 1) f_X10_14 (hS 0 _ rfl) rfl d_X10_gets_39 ?_
      refine gb_getr (r := (1 + 4)) f_X10_169 (ok_X0_1 hS).1 rfl d_X10_gets_42 ?_
      refine gb_iconst 1 d_X10_gets_45 rfl ?_
      refine gb_iald_ 1 rfl (ok_X0_1 hS).2.2.2.2.1 (by unfold vp_in; decide) d_X10_gets_46 ?_
      refine gb_iload_n d_X10_gets_47 rfl ?_
      obtain ⟨r7, e8, h⟩ := gb_bd_e h
      refine gb_cVl (As := [.int r5.2, .int (r5.1.1 (1 + 4) 1), .int x2]) (rest := []) m_X10_345 (t_X6_partsAtTop (Γ := Γ) hS e8) (hS 63 _ rfl) rfl (Nat.le_of_ble_eq_true rfl) rfl rfl (Nat.le_of_ble_eq_true rfl) d_X10_gets_48 ?_
      cases h
      exact gb_lret d_X10_gets_51 rfl ⟨rfl, rfl, rfl⟩
    · have h := gb_it hc h
      refine gb_pick (lv' := []) [] rfl ?_
      exact t_X10_gets_21 hS  _  h
-- J9_floorMod_7cf53
noncomputable def f_J9_floorMod_7cf53 (sh : List gb_Sh) (g : gb_G) (x1 : Int32) (x2 : Int32) : Option (gb_G × Int32) := gb_nz x2 (if 0 ≤ (x1 ^^^ x2) then (some (g, (gb_rem x1 x2))) else (if (gb_rem x1 x2) = 0 then (some (g, (gb_rem x1 x2))) else (some (g, ((gb_rem x1 x2) + x2)))))
set_option maxRecDepth 100000 in
set_option maxHeartbeats 4000000 in
theorem t_J9_floorMod_7cf53 {Γ : gb_X} {sh : List gb_Sh} {x1 : Int32} {x2 : Int32} {out : gb_G × Int32} (hS : gb_S sh) {g : gb_G} (h : f_J9_floorMod_7cf53 sh g x1 x2 = some out) : gb_C Γ M_J9_floorMod_7cf53 0 0 0 sh g [.int x1, .int x2] (gb_Ri sh out) := by
  refine gb_C.ofF (by decide +kernel) (Nat.le_of_ble_eq_true rfl) ?_
  refine gb_pick (lv' := [(0, .int x1), (1, .int x2)]) [0, 1] rfl ?_
  unfold f_J9_floorMod_7cf53 at h
  refine gb_iload_n d_J9_floorMod_7cf53_0 rfl ?_
  refine gb_iload_n d_J9_floorMod_7cf53_1 rfl ?_
  obtain ⟨hn1, h⟩ := gb_nz_e h
  refine gb_rem_ d_J9_floorMod_7cf53_2 hn1 ?_
  refine gb_istore_n [(2, .int (gb_rem x1 x2)), (0, .int x1), (1, .int x2)] d_J9_floorMod_7cf53_3 (Nat.le_of_ble_eq_true rfl) rfl ?_
  refine gb_iload_n d_J9_floorMod_7cf53_4 rfl ?_
  refine gb_iload_n d_J9_floorMod_7cf53_5 rfl ?_
  refine gb_ixor d_J9_floorMod_7cf53_6 ?_
  refine gb_if_ge 18 d_J9_floorMod_7cf53_7 (by decide) (fun hc => ?_) (fun hc => ?_)
  · have h := gb_it hc h
    refine gb_iload_n d_J9_floorMod_7cf53_18 rfl ?_
    cases h
    exact gb_iret d_J9_floorMod_7cf53_19 rfl ⟨rfl, rfl, rfl⟩
  · have h := gb_if hc h
    refine gb_iload_n d_J9_floorMod_7cf53_10 rfl ?_
    refine gb_if_eq 18 d_J9_floorMod_7cf53_11 (by decide) (fun hc => ?_) (fun hc => ?_)
    · have h := gb_it hc h
      refine gb_iload_n d_J9_floorMod_7cf53_18 rfl ?_
      cases h
      exact gb_iret d_J9_floorMod_7cf53_19 rfl ⟨rfl, rfl, rfl⟩
    · have h := gb_if hc h
      refine gb_iload_n d_J9_floorMod_7cf53_14 rfl ?_
      refine gb_iload_n d_J9_floorMod_7cf53_15 rfl ?_
      refine gb_iadd d_J9_floorMod_7cf53_16 ?_
      cases h
      exact gb_iret d_J9_floorMod_7cf53_17 rfl ⟨rfl, rfl, rfl⟩
-- X10_nextDraw
noncomputable def f_X10_nextDraw (sh : List gb_Sh) (g : gb_G) (x1 : Int32) : Option (gb_G × Int32) := some (g, (gb_reml ((x1.toInt64 * 1103) + 12345) 1000003).toInt32)
set_option maxRecDepth 100000 in
set_option maxHeartbeats 4000000 in
theorem t_X10_nextDraw {Γ : gb_X} {sh : List gb_Sh} {x1 : Int32} {out : gb_G × Int32} (hS : gb_S sh) {g : gb_G} (h : f_X10_nextDraw sh g x1 = some out) : gb_C Γ M_X10_nextDraw 0 0 0 sh g [.int x1] (gb_Ri sh out) := by
  refine gb_C.of rfl (Nat.le_of_ble_eq_true rfl) ?_
  refine gb_pick (lv' := [(0, .int x1)]) [0] rfl ?_
  unfold f_X10_nextDraw at h
  refine gb_iload_n d_X10_nextDraw_0 rfl ?_
  refine gb_i2l d_X10_nextDraw_1 ?_
  refine gb_ldc2 1103 k_X10_360 d_X10_nextDraw_2 ?_
  refine gb_lmul d_X10_nextDraw_5 ?_
  refine gb_ldc2 12345 k_X10_362 d_X10_nextDraw_6 ?_
  refine gb_ladd d_X10_nextDraw_9 ?_
  refine gb_ldc2 1000003 k_X10_364 d_X10_nextDraw_10 ?_
  refine gb_reml_ d_X10_nextDraw_13 (by decide) ?_
  refine gb_l2i d_X10_nextDraw_14 ?_
  cases h
  exact gb_iret d_X10_nextDraw_15 rfl ⟨rfl, rfl, rfl⟩
-- X10_years
noncomputable def f_X10_years_21 (sh : List gb_Sh) (g : gb_G)  : Option (gb_G × Int32) := gb_bd (f_X10_refuse sh g (-1)) (fun r3 => some (r3.1, r3.2))
noncomputable def f_X10_years_176 (sh : List gb_Sh) (g : gb_G) (y3 : Int32) : Option (gb_G × Int32) := gb_bd (f_X10_grant sh g y3) (fun r9 => some (r9.1, r9.2))
noncomputable def f_X10_years_63 (sh : List gb_Sh) : Nat → gb_G → Int32 → Int32 → Int32 → Int32 → Option (gb_G × Int32)
  | 0, _, _, _, _, _ => none
  | n + 1, g, y2, y3, y4, y5 => if y2 ≤ y5 then (f_X10_years_176 sh g y3) else (if 999 ≤ (g.1 (13 + 4) 0) then (f_X10_years_176 sh g y3) else (gb_bd (f_X10_nextDraw sh g y4) (fun r11 => gb_bd (f_J9_max_7cf53 sh r11.1 1 (r11.1.1 13 0)) (fun r13 => gb_bd (f_J9_floorMod_7cf53 sh r13.1 r11.2 r13.2) (fun r15 => gb_bd (f_X10_nextDraw sh r15.1 r11.2) (fun r17 => gb_bd (f_X0_befall sh r17.1 13 r15.2 (gb_rem r17.2 4)) (fun r19 => gb_bd (f_X4_moveAll sh r19 13) (fun r21 => gb_bd (f_X0_lawInForce sh r21 13) (fun r23 => gb_bd (f_X1_load sh r23.1 13 r23.2) (fun r25 => gb_bd (f_X1_hundredths sh r25) (fun r27 => gb_bd (f_J9_max_7cf53 sh r27.1 y3 r27.2) (fun r29 => f_X10_years_63 sh n r29.1 y2 r29.2 r17.2 (y5 + 1)))))))))))))
noncomputable def f_X10_years (sh : List gb_Sh) (g : gb_G) (x1 : Int32) (x2 : Int32) : Option (gb_G × Int32) := gb_bd (f_X10_within sh g x1 0 1000000) (fun r1 => if r1.2 = 0 then (f_X10_years_21 sh r1.1 ) else (gb_bd (f_X10_within sh r1.1 x2 1 60) (fun r5 => if r5.2 = 0 then (f_X10_years_21 sh r5.1 ) else (if (r5.1.1 1 0) = 0 then (gb_bd (f_X10_refuse sh r5.1 (-3)) (fun r31 => some (r31.1, r31.2))) else (gb_bd (f_X0_copyFrom sh r5.1 13 1) (fun r7 => f_X10_years_63 sh gb_N r7 x2 0 x1 0))))))
set_option maxRecDepth 100000 in
set_option maxHeartbeats 4000000 in
theorem t_X10_years_21 {Γ : gb_X} {sh : List gb_Sh} {out : gb_G × Int32} (hS : gb_S sh) : ∀ (g : gb_G) , f_X10_years_21 sh g  = some out → gb_J Γ M_X10_years 4 (gb_Ri sh out) 0 0 sh g 21 [(0, .ref 0)] [] := by
  intro g  h
  unfold f_X10_years_21 at h
  refine gb_aload_n d_X10_years_21 rfl ?_
  refine gb_iconst (-1) d_X10_years_22 rfl ?_
  obtain ⟨r3, e4, h⟩ := gb_bd_e h
  refine gb_cVi (As := [.int (-1)]) (rest := []) m_X10_119 (t_X10_refuse (Γ := Γ) hS e4) (hS 0 _ rfl) rfl (Nat.le_of_ble_eq_true rfl) rfl rfl (Nat.le_of_ble_eq_true rfl) d_X10_years_23 ?_
  cases h
  exact gb_iret d_X10_years_26 rfl ⟨rfl, rfl, rfl⟩
set_option maxRecDepth 100000 in
set_option maxHeartbeats 4000000 in
theorem t_X10_years_176 {Γ : gb_X} {sh : List gb_Sh} {out : gb_G × Int32} (hS : gb_S sh) : ∀ (g : gb_G) (y3 : Int32), f_X10_years_176 sh g y3 = some out → gb_J Γ M_X10_years 4 (gb_Ri sh out) 0 0 sh g 176 [(0, .ref 0), (3, .int y3)] [] := by
  intro g y3 h
  unfold f_X10_years_176 at h
  refine gb_aload_n d_X10_years_176 rfl ?_
  refine gb_iload_n d_X10_years_177 rfl ?_
  obtain ⟨r9, e10, h⟩ := gb_bd_e h
  refine gb_cVi (As := [.int y3]) (rest := []) m_X10_133 (t_X10_grant (Γ := Γ) hS e10) (hS 0 _ rfl) rfl (Nat.le_of_ble_eq_true rfl) rfl rfl (Nat.le_of_ble_eq_true rfl) d_X10_years_178 ?_
  cases h
  exact gb_iret d_X10_years_181 rfl ⟨rfl, rfl, rfl⟩
set_option maxRecDepth 100000 in
set_option maxHeartbeats 4000000 in
theorem t_X10_years_63 {Γ : gb_X} {sh : List gb_Sh} {out : gb_G × Int32} (hS : gb_S sh) : ∀ (n : Nat) (g : gb_G) (y2 : Int32) (y3 : Int32) (y4 : Int32) (y5 : Int32), f_X10_years_63 sh n g y2 y3 y4 y5 = some out → gb_J Γ M_X10_years 4 (gb_Ri sh out) 0 0 sh g 63 [(0, .ref 0), (2, .int y2), (3, .int y3), (4, .int y4), (5, .int y5)] [] := by
  intro n
  induction n with
  | zero => intro g y2 y3 y4 y5 h; cases h
  | succ n ih =>
    intro g y2 y3 y4 y5 h
    rw [f_X10_years_63] at h
    refine gb_iload d_X10_years_63 rfl ?_
    refine gb_iload_n d_X10_years_65 rfl ?_
    refine gb_icmp_ge 176 d_X10_years_66 (by decide) (fun hc => ?_) (fun hc => ?_)
    · have h := gb_it hc h
      refine gb_pick (lv' := [(0, .ref 0), (3, .int y3)]) [0, 2] rfl ?_
      exact t_X10_years_176 hS  _ y3 h
    · have h := gb_if hc h
      refine gb_aload_n d_X10_years_69 rfl ?_
      refine gb_getr (r := 13) f_X10_21 (hS 0 _ rfl) rfl d_X10_years_70 ?_
      refine gb_getr (r := (13 + 4)) f_X10_169 (ok_X0_13 hS).1 rfl d_X10_years_73 ?_
      refine gb_iconst 0 d_X10_years_76 rfl ?_
      refine gb_iald_ 0 rfl (ok_X0_13 hS).2.2.2.2.1 (by unfold vp_in; decide) d_X10_years_77 ?_
      refine gb_sipush 999 d_X10_years_78 rfl ?_
      refine gb_icmp_ge 176 d_X10_years_81 (by decide) (fun hc => ?_) (fun hc => ?_)
      · have h := gb_it hc h
        refine gb_pick (lv' := [(0, .ref 0), (3, .int y3)]) [0, 2] rfl ?_
        exact t_X10_years_176 hS  _ y3 h
      · have h := gb_if hc h
        refine gb_iload d_X10_years_84 rfl ?_
        obtain ⟨r11, e12, h⟩ := gb_bd_e h
        refine gb_cSi (As := [.int y4]) (rest := []) m_X10_350 (t_X10_nextDraw (Γ := Γ) hS e12) (Nat.le_of_ble_eq_true rfl) rfl rfl (Nat.le_of_ble_eq_true rfl) d_X10_years_86 ?_
        refine gb_istore [(4, .int r11.2), (0, .ref 0), (2, .int y2), (3, .int y3), (5, .int y5)] d_X10_years_89 (Nat.le_of_ble_eq_true rfl) rfl ?_
        refine gb_iload d_X10_years_91 rfl ?_
        refine gb_iconst 1 d_X10_years_93 rfl ?_
        refine gb_aload_n d_X10_years_94 rfl ?_
        refine gb_getr (r := 13) f_X10_21 (hS 0 _ rfl) rfl d_X10_years_95 ?_
        refine gb_geti f_X10_123 (ok_X0_13 hS).1 rfl d_X10_years_98 ?_
        obtain ⟨r13, e14, h⟩ := gb_bd_e h
        refine gb_cSi (As := [.int 1, .int (r11.1.1 13 0)]) (rest := [.int r11.2]) m_X10_314 (t_J9_max_7cf53 (Γ := Γ) hS e14) (Nat.le_of_ble_eq_true rfl) rfl rfl (Nat.le_of_ble_eq_true rfl) d_X10_years_101 ?_
        obtain ⟨r15, e16, h⟩ := gb_bd_e h
        refine gb_cSi (As := [.int r11.2, .int r13.2]) (rest := []) m_X10_353 (t_J9_floorMod_7cf53 (Γ := Γ) hS e16) (Nat.le_of_ble_eq_true rfl) rfl rfl (Nat.le_of_ble_eq_true rfl) d_X10_years_104 ?_
        refine gb_istore [(6, .int r15.2), (4, .int r11.2), (0, .ref 0), (2, .int y2), (3, .int y3), (5, .int y5)] d_X10_years_107 (Nat.le_of_ble_eq_true rfl) rfl ?_
        refine gb_iload d_X10_years_109 rfl ?_
        obtain ⟨r17, e18, h⟩ := gb_bd_e h
        refine gb_cSi (As := [.int r11.2]) (rest := []) m_X10_350 (t_X10_nextDraw (Γ := Γ) hS e18) (Nat.le_of_ble_eq_true rfl) rfl rfl (Nat.le_of_ble_eq_true rfl) d_X10_years_111 ?_
        refine gb_istore [(4, .int r17.2), (6, .int r15.2), (0, .ref 0), (2, .int y2), (3, .int y3), (5, .int y5)] d_X10_years_114 (Nat.le_of_ble_eq_true rfl) rfl ?_
        refine gb_aload_n d_X10_years_116 rfl ?_
        refine gb_getr (r := 13) f_X10_21 (hS 0 _ rfl) rfl d_X10_years_117 ?_
        refine gb_iload d_X10_years_120 rfl ?_
        refine gb_iload d_X10_years_122 rfl ?_
        refine gb_iconst 4 d_X10_years_124 rfl ?_
        refine gb_rem_ d_X10_years_125 (by decide) ?_
        obtain ⟨r19, e20, h⟩ := gb_bd_e h
        refine gb_cVv (As := [.int r15.2, .int (gb_rem r17.2 4)]) (rest := []) m_X10_356 (t_X0_befall (Γ := Γ) hS (ok_X0_13 hS) e20) (ok_X0_13 hS).1 rfl (Nat.le_of_ble_eq_true rfl) rfl rfl (Nat.le_of_ble_eq_true rfl) d_X10_years_126 ?_
        refine gb_aload_n d_X10_years_129 rfl ?_
        refine gb_getr (r := 54) f_X10_70 (hS 0 _ rfl) rfl d_X10_years_130 ?_
        refine gb_aload_n d_X10_years_133 rfl ?_
        refine gb_getr (r := 13) f_X10_21 (hS 0 _ rfl) rfl d_X10_years_134 ?_
        obtain ⟨r21, e22, h⟩ := gb_bd_e h
        refine gb_cVv (As := [.ref 13]) (rest := []) m_X10_263 (t_X4_moveAll (Γ := Γ) hS (ok_X0_13 hS) e22) (hS 54 _ rfl) rfl (Nat.le_of_ble_eq_true rfl) rfl rfl (Nat.le_of_ble_eq_true rfl) d_X10_years_137 ?_
        refine gb_aload_n d_X10_years_140 rfl ?_
        refine gb_getr (r := 57) f_X10_79 (hS 0 _ rfl) rfl d_X10_years_141 ?_
        refine gb_aload_n d_X10_years_144 rfl ?_
        refine gb_getr (r := 13) f_X10_21 (hS 0 _ rfl) rfl d_X10_years_145 ?_
        refine gb_aload_n d_X10_years_148 rfl ?_
        refine gb_getr (r := 13) f_X10_21 (hS 0 _ rfl) rfl d_X10_years_149 ?_
        obtain ⟨r23, e24, h⟩ := gb_bd_e h
        refine gb_cVq (As := []) (rest := [.ref 13, .ref 57]) m_X10_145 (t_X0_lawInForce (Γ := Γ) hS (ok_X0_13 hS) e24) (ok_X0_13 hS).1 rfl (Nat.le_of_ble_eq_true rfl) rfl rfl (Nat.le_of_ble_eq_true rfl) d_X10_years_152 ?_
        obtain ⟨r25, e26, h⟩ := gb_bd_e h
        refine gb_cVv (As := [.ref 13, va_rf r23.2]) (rest := []) m_X10_252 (t_X1_load (Γ := Γ) hS (ok_X0_13 hS) e26) (hS 57 _ rfl) rfl (Nat.le_of_ble_eq_true rfl) rfl rfl (Nat.le_of_ble_eq_true rfl) d_X10_years_155 ?_
        refine gb_iload_n d_X10_years_158 rfl ?_
        refine gb_aload_n d_X10_years_159 rfl ?_
        refine gb_getr (r := 57) f_X10_79 (hS 0 _ rfl) rfl d_X10_years_160 ?_
        obtain ⟨r27, e28, h⟩ := gb_bd_e h
        refine gb_cVi (As := []) (rest := [.int y3]) m_X10_256 (t_X1_hundredths (Γ := Γ) hS e28) (hS 57 _ rfl) rfl (Nat.le_of_ble_eq_true rfl) rfl rfl (Nat.le_of_ble_eq_true rfl) d_X10_years_163 ?_
        obtain ⟨r29, e30, h⟩ := gb_bd_e h
        refine gb_cSi (As := [.int y3, .int r27.2]) (rest := []) m_X10_314 (t_J9_max_7cf53 (Γ := Γ) hS e30) (Nat.le_of_ble_eq_true rfl) rfl rfl (Nat.le_of_ble_eq_true rfl) d_X10_years_166 ?_
        refine gb_istore_n [(3, .int r29.2), (4, .int r17.2), (6, .int r15.2), (0, .ref 0), (2, .int y2), (5, .int y5)] d_X10_years_169 (Nat.le_of_ble_eq_true rfl) rfl ?_
        refine gb_iinc (y5 + 1) [(5, .int (y5 + 1)), (3, .int r29.2), (4, .int r17.2), (6, .int r15.2), (0, .ref 0), (2, .int y2)] d_X10_years_170 (Nat.le_of_ble_eq_true rfl) rfl rfl rfl ?_
        refine gb_goto 63 d_X10_years_173 (by decide) ?_
        refine gb_pick (lv' := [(0, .ref 0), (2, .int y2), (3, .int r29.2), (4, .int r17.2), (5, .int (y5 + 1))]) [4, 5, 1, 2, 0] rfl ?_
        exact ih _ y2 r29.2 r17.2 (y5 + 1) h
set_option maxRecDepth 100000 in
set_option maxHeartbeats 4000000 in
theorem t_X10_years {Γ : gb_X} {sh : List gb_Sh} {x1 : Int32} {x2 : Int32} {out : gb_G × Int32} (hS : gb_S sh) {g : gb_G} (h : f_X10_years sh g x1 x2 = some out) : gb_C Γ M_X10_years 4 0 0 sh g [.ref 0, .int x1, .int x2] (gb_Ri sh out) := by
  refine gb_C.of rfl (Nat.le_of_ble_eq_true rfl) ?_
  refine gb_pick (lv' := [(0, .ref 0), (1, .int x1), (2, .int x2)]) [0, 1, 2] rfl ?_
  unfold f_X10_years at h
  refine gb_iload_n d_X10_years_0 rfl ?_
  refine gb_iconst 0 d_X10_years_1 rfl ?_
  refine gb_ldcw 1000000 k_X10_349 d_X10_years_2 ?_
  obtain ⟨r1, e2, h⟩ := gb_bd_e h
  refine gb_cSi (As := [.int x1, .int 0, .int 1000000]) (rest := []) m_X10_115 (t_X10_within (Γ := Γ) hS e2) (Nat.le_of_ble_eq_true rfl) rfl rfl (Nat.le_of_ble_eq_true rfl) d_X10_years_5 ?_
  refine gb_if_eq 21 d_X10_years_8 (by decide) (fun hc => ?_) (fun hc => ?_)
  · have h := gb_it hc h
    refine gb_pick (lv' := [(0, .ref 0)]) [0] rfl ?_
    exact t_X10_years_21 hS  _  h
  · have h := gb_if hc h
    refine gb_iload_n d_X10_years_11 rfl ?_
    refine gb_iconst 1 d_X10_years_12 rfl ?_
    refine gb_bipush 60 d_X10_years_13 rfl ?_
    obtain ⟨r5, e6, h⟩ := gb_bd_e h
    refine gb_cSi (As := [.int x2, .int 1, .int 60]) (rest := []) m_X10_115 (t_X10_within (Γ := Γ) hS e6) (Nat.le_of_ble_eq_true rfl) rfl rfl (Nat.le_of_ble_eq_true rfl) d_X10_years_15 ?_
    refine gb_if_ne 27 d_X10_years_18 (by decide) (fun hc => ?_) (fun hc => ?_)
    · have h := gb_if hc h
      refine gb_aload_n d_X10_years_27 rfl ?_
      refine gb_getr (r := 1) f_X10_14 (hS 0 _ rfl) rfl d_X10_years_28 ?_
      refine gb_geti f_X10_123 (ok_X0_1 hS).1 rfl d_X10_years_31 ?_
      refine gb_if_ne 44 d_X10_years_34 (by decide) (fun hc => ?_) (fun hc => ?_)
      · have h := gb_if hc h
        refine gb_aload_n d_X10_years_44 rfl ?_
        refine gb_getr (r := 13) f_X10_21 (hS 0 _ rfl) rfl d_X10_years_45 ?_
        refine gb_aload_n d_X10_years_48 rfl ?_
        refine gb_getr (r := 1) f_X10_14 (hS 0 _ rfl) rfl d_X10_years_49 ?_
        obtain ⟨r7, e8, h⟩ := gb_bd_e h
        refine gb_cVv (As := [.ref 1]) (rest := []) m_X10_204 (t_X0_copyFrom (Γ := Γ) hS (ok_X0_13 hS) (ok_X0_1 hS) e8) (ok_X0_13 hS).1 rfl (Nat.le_of_ble_eq_true rfl) rfl rfl (Nat.le_of_ble_eq_true rfl) d_X10_years_52 ?_
        refine gb_iconst 0 d_X10_years_55 rfl ?_
        refine gb_istore_n [(3, .int 0), (0, .ref 0), (1, .int x1), (2, .int x2)] d_X10_years_56 (Nat.le_of_ble_eq_true rfl) rfl ?_
        refine gb_iload_n d_X10_years_57 rfl ?_
        refine gb_istore [(4, .int x1), (3, .int 0), (0, .ref 0), (1, .int x1), (2, .int x2)] d_X10_years_58 (Nat.le_of_ble_eq_true rfl) rfl ?_
        refine gb_iconst 0 d_X10_years_60 rfl ?_
        refine gb_istore [(5, .int 0), (4, .int x1), (3, .int 0), (0, .ref 0), (1, .int x1), (2, .int x2)] d_X10_years_61 (Nat.le_of_ble_eq_true rfl) rfl ?_
        refine gb_pick (lv' := [(0, .ref 0), (2, .int x2), (3, .int 0), (4, .int x1), (5, .int 0)]) [3, 5, 2, 1, 0] rfl ?_
        exact t_X10_years_63 hS  gb_N _ x2 0 x1 0 h
      · have h := gb_it hc h
        refine gb_aload_n d_X10_years_37 rfl ?_
        refine gb_bipush (-3) d_X10_years_38 rfl ?_
        obtain ⟨r31, e32, h⟩ := gb_bd_e h
        refine gb_cVi (As := [.int (-3)]) (rest := []) m_X10_119 (t_X10_refuse (Γ := Γ) hS e32) (hS 0 _ rfl) rfl (Nat.le_of_ble_eq_true rfl) rfl rfl (Nat.le_of_ble_eq_true rfl) d_X10_years_40 ?_
        cases h
        exact gb_iret d_X10_years_43 rfl ⟨rfl, rfl, rfl⟩
    · have h := gb_it hc h
      refine gb_pick (lv' := [(0, .ref 0)]) [0] rfl ?_
      exact t_X10_years_21 hS  _  h
-- X10_drawn
noncomputable def f_X10_drawn_25 (sh : List gb_Sh) (g : gb_G) (z0 : Int32) (z1 : Int32) : Option (gb_G × Int32) := gb_bd (f_X0_read sh g 13 z1 z0) (fun r3 => some (r3.1, r3.2))
noncomputable def f_X10_drawn (sh : List gb_Sh) (g : gb_G) (x1 : Int32) (x2 : Int32) : Option (gb_G × Int32) := gb_bd (f_X10_within sh g x2 0 1) (fun r1 => if r1.2 = 0 then (some (r1.1, (-1))) else (if x2 = 0 then (f_X10_drawn_25 sh r1.1 1 x1) else (f_X10_drawn_25 sh r1.1 5 x1)))
set_option maxRecDepth 100000 in
set_option maxHeartbeats 4000000 in
theorem t_X10_drawn_25 {Γ : gb_X} {sh : List gb_Sh} {out : gb_G × Int32} (hS : gb_S sh) : ∀ (g : gb_G) (z0 : Int32) (z1 : Int32), f_X10_drawn_25 sh g z0 z1 = some out → gb_J Γ M_X10_drawn 1 (gb_Ri sh out) 0 0 sh g 25 [] [.int z0, .int z1, .ref 13] := by
  intro g z0 z1 h
  unfold f_X10_drawn_25 at h
  obtain ⟨r3, e4, h⟩ := gb_bd_e h
  refine gb_cVi (As := [.int z1, .int z0]) (rest := []) m_X10_136 (t_X0_read (Γ := Γ) hS (ok_X0_13 hS) e4) (ok_X0_13 hS).1 rfl (Nat.le_of_ble_eq_true rfl) rfl rfl (Nat.le_of_ble_eq_true rfl) d_X10_drawn_25 ?_
  cases h
  exact gb_iret d_X10_drawn_28 rfl ⟨rfl, rfl, rfl⟩
set_option maxRecDepth 100000 in
set_option maxHeartbeats 4000000 in
theorem t_X10_drawn {Γ : gb_X} {sh : List gb_Sh} {x1 : Int32} {x2 : Int32} {out : gb_G × Int32} (hS : gb_S sh) {g : gb_G} (h : f_X10_drawn sh g x1 x2 = some out) : gb_C Γ M_X10_drawn 1 0 0 sh g [.ref 0, .int x1, .int x2] (gb_Ri sh out) := by
  refine gb_C.of rfl (Nat.le_of_ble_eq_true rfl) ?_
  refine gb_pick (lv' := [(0, .ref 0), (1, .int x1), (2, .int x2)]) [0, 1, 2] rfl ?_
  unfold f_X10_drawn at h
  refine gb_iload_n d_X10_drawn_0 rfl ?_
  refine gb_iconst 0 d_X10_drawn_1 rfl ?_
  refine gb_iconst 1 d_X10_drawn_2 rfl ?_
  obtain ⟨r1, e2, h⟩ := gb_bd_e h
  refine gb_cSi (As := [.int x2, .int 0, .int 1]) (rest := []) m_X10_115 (t_X10_within (Γ := Γ) hS e2) (Nat.le_of_ble_eq_true rfl) rfl rfl (Nat.le_of_ble_eq_true rfl) d_X10_drawn_3 ?_
  refine gb_if_ne 11 d_X10_drawn_6 (by decide) (fun hc => ?_) (fun hc => ?_)
  · have h := gb_if hc h
    refine gb_aload_n d_X10_drawn_11 rfl ?_
    refine gb_getr (r := 13) f_X10_21 (hS 0 _ rfl) rfl d_X10_drawn_12 ?_
    refine gb_iload_n d_X10_drawn_15 rfl ?_
    refine gb_iload_n d_X10_drawn_16 rfl ?_
    refine gb_if_ne 24 d_X10_drawn_17 (by decide) (fun hc => ?_) (fun hc => ?_)
    · have h := gb_if hc h
      refine gb_iconst 5 d_X10_drawn_24 rfl ?_
      refine gb_pick (lv' := []) [] rfl ?_
      exact t_X10_drawn_25 hS  _ 5 x1 h
    · have h := gb_it hc h
      refine gb_iconst 1 d_X10_drawn_20 rfl ?_
      refine gb_goto 25 d_X10_drawn_21 (by decide) ?_
      refine gb_pick (lv' := []) [] rfl ?_
      exact t_X10_drawn_25 hS  _ 1 x1 h
  · have h := gb_it hc h
    refine gb_iconst (-1) d_X10_drawn_9 rfl ?_
    cases h
    exact gb_iret d_X10_drawn_10 rfl ⟨rfl, rfl, rfl⟩
-- X10_image
noncomputable def f_X10_image (sh : List gb_Sh) (g : gb_G) (x1 : Int32) : Option (gb_G × Int32) := gb_bd (f_X10_within sh g x1 0 1) (fun r1 => if r1.2 = 0 then (gb_bd (f_X10_refuse sh r1.1 (-1)) (fun r13 => some (r13.1, r13.2))) else (gb_ck x1 2 (gb_bd (r1.1.2.2 19 x1.toNatClampNeg) (fun p4 => gb_gdX0 sh p4 (gb_bd (f_X0_copyFrom sh r1.1 p4 1) (fun r7 => gb_ck x1 2 (gb_let (gb_pi r7 32 x1.toNatClampNeg 1) (fun g10 => gb_bd (f_X10_grant sh g10 0) (fun r11 => some (r11.1, r11.2))))))))))
set_option maxRecDepth 100000 in
set_option maxHeartbeats 4000000 in
theorem t_X10_image {Γ : gb_X} {sh : List gb_Sh} {x1 : Int32} {out : gb_G × Int32} (hS : gb_S sh) {g : gb_G} (h : f_X10_image sh g x1 = some out) : gb_C Γ M_X10_image 2 0 0 sh g [.ref 0, .int x1] (gb_Ri sh out) := by
  refine gb_C.of rfl (Nat.le_of_ble_eq_true rfl) ?_
  refine gb_pick (lv' := [(0, .ref 0), (1, .int x1)]) [0, 1] rfl ?_
  unfold f_X10_image at h
  refine gb_iload_n d_X10_image_0 rfl ?_
  refine gb_iconst 0 d_X10_image_1 rfl ?_
  refine gb_iconst 1 d_X10_image_2 rfl ?_
  obtain ⟨r1, e2, h⟩ := gb_bd_e h
  refine gb_cSi (As := [.int x1, .int 0, .int 1]) (rest := []) m_X10_115 (t_X10_within (Γ := Γ) hS e2) (Nat.le_of_ble_eq_true rfl) rfl rfl (Nat.le_of_ble_eq_true rfl) d_X10_image_3 ?_
  refine gb_if_ne 15 d_X10_image_6 (by decide) (fun hc => ?_) (fun hc => ?_)
  · have h := gb_if hc h
    refine gb_aload_n d_X10_image_15 rfl ?_
    refine gb_getr (r := 19) f_X10_24 (hS 0 _ rfl) rfl d_X10_image_16 ?_
    refine gb_iload_n d_X10_image_19 rfl ?_
    obtain ⟨hi3, h⟩ := gb_ck_e h
    refine gb_aald_ x1.toNatClampNeg rfl (by decide) (hS 19 _ rfl) hi3 d_X10_image_20 ?_
    refine gb_aload_n d_X10_image_21 rfl ?_
    refine gb_getr (r := 1) f_X10_14 (hS 0 _ rfl) rfl d_X10_image_22 ?_
    obtain ⟨p4, ep5, h⟩ := gb_bd_e h
    rw [ep5]
    obtain ⟨hp6, h⟩ := gb_gdX0_e h
    obtain ⟨r7, e8, h⟩ := gb_bd_e h
    refine gb_cVv (As := [.ref 1]) (rest := []) m_X10_204 (t_X0_copyFrom (Γ := Γ) hS hp6 (ok_X0_1 hS) e8) hp6.1 rfl (Nat.le_of_ble_eq_true rfl) rfl rfl (Nat.le_of_ble_eq_true rfl) d_X10_image_25 ?_
    refine gb_aload_n d_X10_image_28 rfl ?_
    refine gb_getr (r := 32) f_X10_28 (hS 0 _ rfl) rfl d_X10_image_29 ?_
    refine gb_iload_n d_X10_image_32 rfl ?_
    refine gb_iconst 1 d_X10_image_33 rfl ?_
    obtain ⟨hi9, h⟩ := gb_ck_e h
    refine gb_iast_ x1.toNatClampNeg rfl (hS 32 _ rfl) hi9 d_X10_image_34 ?_
    have h := gb_let_e h
    generalize gb_pi r7 32 x1.toNatClampNeg 1 = g10 at h ⊢
    refine gb_aload_n d_X10_image_35 rfl ?_
    refine gb_iconst 0 d_X10_image_36 rfl ?_
    obtain ⟨r11, e12, h⟩ := gb_bd_e h
    refine gb_cVi (As := [.int 0]) (rest := []) m_X10_133 (t_X10_grant (Γ := Γ) hS e12) (hS 0 _ rfl) rfl (Nat.le_of_ble_eq_true rfl) rfl rfl (Nat.le_of_ble_eq_true rfl) d_X10_image_37 ?_
    cases h
    exact gb_iret d_X10_image_40 rfl ⟨rfl, rfl, rfl⟩
  · have h := gb_it hc h
    refine gb_aload_n d_X10_image_9 rfl ?_
    refine gb_iconst (-1) d_X10_image_10 rfl ?_
    obtain ⟨r13, e14, h⟩ := gb_bd_e h
    refine gb_cVi (As := [.int (-1)]) (rest := []) m_X10_119 (t_X10_refuse (Γ := Γ) hS e14) (hS 0 _ rfl) rfl (Nat.le_of_ble_eq_true rfl) rfl rfl (Nat.le_of_ble_eq_true rfl) d_X10_image_11 ?_
    cases h
    exact gb_iret d_X10_image_14 rfl ⟨rfl, rfl, rfl⟩
-- X10_back
noncomputable def f_X10_back (sh : List gb_Sh) (g : gb_G) (x1 : Int32) : Option (gb_G × Int32) := gb_bd (f_X10_within sh g x1 0 1) (fun r1 => if r1.2 = 0 then (gb_bd (f_X10_refuse sh r1.1 (-1)) (fun r16 => some (r16.1, r16.2))) else (gb_ck x1 2 (if (r1.1.1 32 x1.toNatClampNeg) = 0 then (gb_bd (f_X10_refuse sh r1.1 (-2)) (fun r14 => some (r14.1, r14.2))) else (gb_ck x1 2 (gb_bd (r1.1.2.2 19 x1.toNatClampNeg) (fun p5 => gb_gdX0 sh p5 (gb_bd (f_X0_copyFrom sh r1.1 1 p5) (fun r8 => gb_bd (f_X3_clear sh r8 33) (fun r10 => gb_bd (f_X10_grant sh r10 0) (fun r12 => some (r12.1, r12.2)))))))))))
set_option maxRecDepth 100000 in
set_option maxHeartbeats 4000000 in
theorem t_X10_back {Γ : gb_X} {sh : List gb_Sh} {x1 : Int32} {out : gb_G × Int32} (hS : gb_S sh) {g : gb_G} (h : f_X10_back sh g x1 = some out) : gb_C Γ M_X10_back 2 0 0 sh g [.ref 0, .int x1] (gb_Ri sh out) := by
  refine gb_C.of rfl (Nat.le_of_ble_eq_true rfl) ?_
  refine gb_pick (lv' := [(0, .ref 0), (1, .int x1)]) [0, 1] rfl ?_
  unfold f_X10_back at h
  refine gb_iload_n d_X10_back_0 rfl ?_
  refine gb_iconst 0 d_X10_back_1 rfl ?_
  refine gb_iconst 1 d_X10_back_2 rfl ?_
  obtain ⟨r1, e2, h⟩ := gb_bd_e h
  refine gb_cSi (As := [.int x1, .int 0, .int 1]) (rest := []) m_X10_115 (t_X10_within (Γ := Γ) hS e2) (Nat.le_of_ble_eq_true rfl) rfl rfl (Nat.le_of_ble_eq_true rfl) d_X10_back_3 ?_
  refine gb_if_ne 15 d_X10_back_6 (by decide) (fun hc => ?_) (fun hc => ?_)
  · have h := gb_if hc h
    refine gb_aload_n d_X10_back_15 rfl ?_
    refine gb_getr (r := 32) f_X10_28 (hS 0 _ rfl) rfl d_X10_back_16 ?_
    refine gb_iload_n d_X10_back_19 rfl ?_
    obtain ⟨hi3, h⟩ := gb_ck_e h
    refine gb_iald_ x1.toNatClampNeg rfl (hS 32 _ rfl) hi3 d_X10_back_20 ?_
    refine gb_if_ne 31 d_X10_back_21 (by decide) (fun hc => ?_) (fun hc => ?_)
    · have h := gb_if hc h
      refine gb_aload_n d_X10_back_31 rfl ?_
      refine gb_getr (r := 1) f_X10_14 (hS 0 _ rfl) rfl d_X10_back_32 ?_
      refine gb_aload_n d_X10_back_35 rfl ?_
      refine gb_getr (r := 19) f_X10_24 (hS 0 _ rfl) rfl d_X10_back_36 ?_
      refine gb_iload_n d_X10_back_39 rfl ?_
      obtain ⟨hi4, h⟩ := gb_ck_e h
      refine gb_aald_ x1.toNatClampNeg rfl (by decide) (hS 19 _ rfl) hi4 d_X10_back_40 ?_
      obtain ⟨p5, ep6, h⟩ := gb_bd_e h
      rw [ep6]
      obtain ⟨hp7, h⟩ := gb_gdX0_e h
      obtain ⟨r8, e9, h⟩ := gb_bd_e h
      refine gb_cVv (As := [.ref p5]) (rest := []) m_X10_204 (t_X0_copyFrom (Γ := Γ) hS (ok_X0_1 hS) hp7 e9) (ok_X0_1 hS).1 rfl (Nat.le_of_ble_eq_true rfl) rfl rfl (Nat.le_of_ble_eq_true rfl) d_X10_back_41 ?_
      refine gb_aload_n d_X10_back_44 rfl ?_
      refine gb_getr (r := 33) f_X10_35 (hS 0 _ rfl) rfl d_X10_back_45 ?_
      obtain ⟨r10, e11, h⟩ := gb_bd_e h
      refine gb_cVv (As := []) (rest := []) m_X10_126 (t_X3_clear (Γ := Γ) hS (ok_X3_33 hS) e11) (ok_X3_33 hS).1 rfl (Nat.le_of_ble_eq_true rfl) rfl rfl (Nat.le_of_ble_eq_true rfl) d_X10_back_48 ?_
      refine gb_aload_n d_X10_back_51 rfl ?_
      refine gb_iconst 0 d_X10_back_52 rfl ?_
      obtain ⟨r12, e13, h⟩ := gb_bd_e h
      refine gb_cVi (As := [.int 0]) (rest := []) m_X10_133 (t_X10_grant (Γ := Γ) hS e13) (hS 0 _ rfl) rfl (Nat.le_of_ble_eq_true rfl) rfl rfl (Nat.le_of_ble_eq_true rfl) d_X10_back_53 ?_
      cases h
      exact gb_iret d_X10_back_56 rfl ⟨rfl, rfl, rfl⟩
    · have h := gb_it hc h
      refine gb_aload_n d_X10_back_24 rfl ?_
      refine gb_bipush (-2) d_X10_back_25 rfl ?_
      obtain ⟨r14, e15, h⟩ := gb_bd_e h
      refine gb_cVi (As := [.int (-2)]) (rest := []) m_X10_119 (t_X10_refuse (Γ := Γ) hS e15) (hS 0 _ rfl) rfl (Nat.le_of_ble_eq_true rfl) rfl rfl (Nat.le_of_ble_eq_true rfl) d_X10_back_27 ?_
      cases h
      exact gb_iret d_X10_back_30 rfl ⟨rfl, rfl, rfl⟩
  · have h := gb_it hc h
    refine gb_aload_n d_X10_back_9 rfl ?_
    refine gb_iconst (-1) d_X10_back_10 rfl ?_
    obtain ⟨r16, e17, h⟩ := gb_bd_e h
    refine gb_cVi (As := [.int (-1)]) (rest := []) m_X10_119 (t_X10_refuse (Γ := Γ) hS e17) (hS 0 _ rfl) rfl (Nat.le_of_ble_eq_true rfl) rfl rfl (Nat.le_of_ble_eq_true rfl) d_X10_back_11 ?_
    cases h
    exact gb_iret d_X10_back_14 rfl ⟨rfl, rfl, rfl⟩
-- X10_count
noncomputable def f_X10_count (sh : List gb_Sh) (g : gb_G) (x1 : Int32) : Option (gb_G × Int32) := if x1 = 0 then (some (g, (g.1 1 0))) else if x1 = 1 then (gb_bd (f_X0_lackingCount sh g 1) (fun r3 => some (r3.1, r3.2))) else if x1 = 2 then (some (g, (g.1 1 2))) else if x1 = 3 then (some (g, (g.1 1 4))) else if x1 = 4 then (some (g, (g.1 1 7))) else if x1 = 5 then (some (g, (g.1 33 0))) else if x1 = 6 then (some (g, (g.1 43 1))) else if x1 = 7 then (some (g, (g.1 76 1))) else if x1 = 8 then (some (g, (g.1 76 2))) else if x1 = 9 then (some (g, (g.1 76 3))) else if x1 = 10 then (some (g, (g.1 76 5))) else if x1 = 11 then (some (g, (g.1 76 6))) else if x1 = 12 then (some (g, (g.1 1 9))) else (gb_bd (f_X10_within sh g x1 13 15) (fun r16 => if r16.2 = 0 then (some (r16.1, (-1))) else (gb_ck (x1 - 13) 3 (some (r16.1, (r16.1.1 (1 + 4) ((x1 - 13).toNatClampNeg)))))))
set_option maxRecDepth 100000 in
set_option maxHeartbeats 4000000 in
theorem t_X10_count {Γ : gb_X} {sh : List gb_Sh} {x1 : Int32} {out : gb_G × Int32} (hS : gb_S sh) {g : gb_G} (h : f_X10_count sh g x1 = some out) : gb_C Γ M_X10_count 2 0 0 sh g [.ref 0, .int x1] (gb_Ri sh out) := by
  refine gb_C.of rfl (Nat.le_of_ble_eq_true rfl) ?_
  refine gb_pick (lv' := [(0, .ref 0), (1, .int x1)]) [0, 1] rfl ?_
  unfold f_X10_count at h
  refine gb_iload_n d_X10_count_0 rfl ?_
  by_cases hc1 : x1 = 0
  · have h := gb_it hc1 h
    refine gb_tabI 68 hc1 d_X10_count_1 (by decide) (by decide) rfl (by decide) ?_
    refine gb_aload_n d_X10_count_68 rfl ?_
    refine gb_getr (r := 1) f_X10_14 (hS 0 _ rfl) rfl d_X10_count_69 ?_
    refine gb_geti f_X10_123 (ok_X0_1 hS).1 rfl d_X10_count_72 ?_
    cases h
    exact gb_iret d_X10_count_75 rfl ⟨rfl, rfl, rfl⟩
  replace h := gb_if hc1 h
  by_cases hc2 : x1 = 1
  · have h := gb_it hc2 h
    refine gb_tabI 76 hc2 d_X10_count_1 (by decide) (by decide) rfl (by decide) ?_
    refine gb_aload_n d_X10_count_76 rfl ?_
    refine gb_getr (r := 1) f_X10_14 (hS 0 _ rfl) rfl d_X10_count_77 ?_
    obtain ⟨r3, e4, h⟩ := gb_bd_e h
    refine gb_cVi (As := []) (rest := []) m_X10_245 (t_X0_lackingCount (Γ := Γ) hS (ok_X0_1 hS) e4) (ok_X0_1 hS).1 rfl (Nat.le_of_ble_eq_true rfl) rfl rfl (Nat.le_of_ble_eq_true rfl) d_X10_count_80 ?_
    cases h
    exact gb_iret d_X10_count_83 rfl ⟨rfl, rfl, rfl⟩
  replace h := gb_if hc2 h
  by_cases hc5 : x1 = 2
  · have h := gb_it hc5 h
    refine gb_tabI 84 hc5 d_X10_count_1 (by decide) (by decide) rfl (by decide) ?_
    refine gb_aload_n d_X10_count_84 rfl ?_
    refine gb_getr (r := 1) f_X10_14 (hS 0 _ rfl) rfl d_X10_count_85 ?_
    refine gb_geti f_X10_157 (ok_X0_1 hS).1 rfl d_X10_count_88 ?_
    cases h
    exact gb_iret d_X10_count_91 rfl ⟨rfl, rfl, rfl⟩
  replace h := gb_if hc5 h
  by_cases hc6 : x1 = 3
  · have h := gb_it hc6 h
    refine gb_tabI 92 hc6 d_X10_count_1 (by decide) (by decide) rfl (by decide) ?_
    refine gb_aload_n d_X10_count_92 rfl ?_
    refine gb_getr (r := 1) f_X10_14 (hS 0 _ rfl) rfl d_X10_count_93 ?_
    refine gb_geti f_X10_322 (ok_X0_1 hS).1 rfl d_X10_count_96 ?_
    cases h
    exact gb_iret d_X10_count_99 rfl ⟨rfl, rfl, rfl⟩
  replace h := gb_if hc6 h
  by_cases hc7 : x1 = 4
  · have h := gb_it hc7 h
    refine gb_tabI 100 hc7 d_X10_count_1 (by decide) (by decide) rfl (by decide) ?_
    refine gb_aload_n d_X10_count_100 rfl ?_
    refine gb_getr (r := 1) f_X10_14 (hS 0 _ rfl) rfl d_X10_count_101 ?_
    refine gb_geti f_X10_185 (ok_X0_1 hS).1 rfl d_X10_count_104 ?_
    cases h
    exact gb_iret d_X10_count_107 rfl ⟨rfl, rfl, rfl⟩
  replace h := gb_if hc7 h
  by_cases hc8 : x1 = 5
  · have h := gb_it hc8 h
    refine gb_tabI 108 hc8 d_X10_count_1 (by decide) (by decide) rfl (by decide) ?_
    refine gb_aload_n d_X10_count_108 rfl ?_
    refine gb_getr (r := 33) f_X10_35 (hS 0 _ rfl) rfl d_X10_count_109 ?_
    refine gb_geti f_X10_269 (ok_X3_33 hS).1 rfl d_X10_count_112 ?_
    cases h
    exact gb_iret d_X10_count_115 rfl ⟨rfl, rfl, rfl⟩
  replace h := gb_if hc8 h
  by_cases hc9 : x1 = 6
  · have h := gb_it hc9 h
    refine gb_tabI 116 hc9 d_X10_count_1 (by decide) (by decide) rfl (by decide) ?_
    refine gb_aload_n d_X10_count_116 rfl ?_
    refine gb_getr (r := 43) f_X10_45 (hS 0 _ rfl) rfl d_X10_count_117 ?_
    refine gb_geti f_X10_172 (hS 43 _ rfl) rfl d_X10_count_120 ?_
    cases h
    exact gb_iret d_X10_count_123 rfl ⟨rfl, rfl, rfl⟩
  replace h := gb_if hc9 h
  by_cases hc10 : x1 = 7
  · have h := gb_it hc10 h
    refine gb_tabI 124 hc10 d_X10_count_1 (by decide) (by decide) rfl (by decide) ?_
    refine gb_aload_n d_X10_count_124 rfl ?_
    refine gb_getr (r := 76) f_X10_95 (hS 0 _ rfl) rfl d_X10_count_125 ?_
    refine gb_iconst 1 d_X10_count_128 rfl ?_
    refine gb_iald_ 1 rfl (hS 76 _ rfl) (by unfold vp_in; decide) d_X10_count_129 ?_
    cases h
    exact gb_iret d_X10_count_130 rfl ⟨rfl, rfl, rfl⟩
  replace h := gb_if hc10 h
  by_cases hc11 : x1 = 8
  · have h := gb_it hc11 h
    refine gb_tabI 131 hc11 d_X10_count_1 (by decide) (by decide) rfl (by decide) ?_
    refine gb_aload_n d_X10_count_131 rfl ?_
    refine gb_getr (r := 76) f_X10_95 (hS 0 _ rfl) rfl d_X10_count_132 ?_
    refine gb_iconst 2 d_X10_count_135 rfl ?_
    refine gb_iald_ 2 rfl (hS 76 _ rfl) (by unfold vp_in; decide) d_X10_count_136 ?_
    cases h
    exact gb_iret d_X10_count_137 rfl ⟨rfl, rfl, rfl⟩
  replace h := gb_if hc11 h
  by_cases hc12 : x1 = 9
  · have h := gb_it hc12 h
    refine gb_tabI 138 hc12 d_X10_count_1 (by decide) (by decide) rfl (by decide) ?_
    refine gb_aload_n d_X10_count_138 rfl ?_
    refine gb_getr (r := 76) f_X10_95 (hS 0 _ rfl) rfl d_X10_count_139 ?_
    refine gb_iconst 3 d_X10_count_142 rfl ?_
    refine gb_iald_ 3 rfl (hS 76 _ rfl) (by unfold vp_in; decide) d_X10_count_143 ?_
    cases h
    exact gb_iret d_X10_count_144 rfl ⟨rfl, rfl, rfl⟩
  replace h := gb_if hc12 h
  by_cases hc13 : x1 = 10
  · have h := gb_it hc13 h
    refine gb_tabI 145 hc13 d_X10_count_1 (by decide) (by decide) rfl (by decide) ?_
    refine gb_aload_n d_X10_count_145 rfl ?_
    refine gb_getr (r := 76) f_X10_95 (hS 0 _ rfl) rfl d_X10_count_146 ?_
    refine gb_iconst 5 d_X10_count_149 rfl ?_
    refine gb_iald_ 5 rfl (hS 76 _ rfl) (by unfold vp_in; decide) d_X10_count_150 ?_
    cases h
    exact gb_iret d_X10_count_151 rfl ⟨rfl, rfl, rfl⟩
  replace h := gb_if hc13 h
  by_cases hc14 : x1 = 11
  · have h := gb_it hc14 h
    refine gb_tabI 152 hc14 d_X10_count_1 (by decide) (by decide) rfl (by decide) ?_
    refine gb_aload_n d_X10_count_152 rfl ?_
    refine gb_getr (r := 76) f_X10_95 (hS 0 _ rfl) rfl d_X10_count_153 ?_
    refine gb_bipush 6 d_X10_count_156 rfl ?_
    refine gb_iald_ 6 rfl (hS 76 _ rfl) (by unfold vp_in; decide) d_X10_count_158 ?_
    cases h
    exact gb_iret d_X10_count_159 rfl ⟨rfl, rfl, rfl⟩
  replace h := gb_if hc14 h
  by_cases hc15 : x1 = 12
  · have h := gb_it hc15 h
    refine gb_tabI 160 hc15 d_X10_count_1 (by decide) (by decide) rfl (by decide) ?_
    refine gb_aload_n d_X10_count_160 rfl ?_
    refine gb_getr (r := 1) f_X10_14 (hS 0 _ rfl) rfl d_X10_count_161 ?_
    refine gb_geti f_X10_221 (ok_X0_1 hS).1 rfl d_X10_count_164 ?_
    cases h
    exact gb_iret d_X10_count_167 rfl ⟨rfl, rfl, rfl⟩
  replace h := gb_if hc15 h
  refine gb_tabO 168 d_X10_count_1 (gb_out 13 (by decide) (by decide) (by decide) (fun i hi => match i, hi with | 0, _ => hc1 | 1, _ => hc2 | 2, _ => hc5 | 3, _ => hc6 | 4, _ => hc7 | 5, _ => hc8 | 6, _ => hc9 | 7, _ => hc10 | 8, _ => hc11 | 9, _ => hc12 | 10, _ => hc13 | 11, _ => hc14 | 12, _ => hc15 | q + 13, h9 => absurd h9 (Nat.not_lt.mpr (Nat.le_add_left _ _)))) (by decide) ?_
  refine gb_iload_n d_X10_count_168 rfl ?_
  refine gb_bipush 13 d_X10_count_169 rfl ?_
  refine gb_bipush 15 d_X10_count_171 rfl ?_
  obtain ⟨r16, e17, h⟩ := gb_bd_e h
  refine gb_cSi (As := [.int x1, .int 13, .int 15]) (rest := []) m_X10_115 (t_X10_within (Γ := Γ) hS e17) (Nat.le_of_ble_eq_true rfl) rfl rfl (Nat.le_of_ble_eq_true rfl) d_X10_count_173 ?_
  refine gb_if_eq 194 d_X10_count_176 (by decide) (fun hc => ?_) (fun hc => ?_)
  · have h := gb_it hc h
    refine gb_iconst (-1) d_X10_count_194 rfl ?_
    cases h
    exact gb_iret d_X10_count_195 rfl ⟨rfl, rfl, rfl⟩
  · have h := gb_if hc h
    refine gb_aload_n d_X10_count_179 rfl ?_
    refine gb_getr (r := 1) f_X10_14 (hS 0 _ rfl) rfl d_X10_count_180 ?_
    refine gb_getr (r := (1 + 4)) f_X10_169 (ok_X0_1 hS).1 rfl d_X10_count_183 ?_
    refine gb_iload_n d_X10_count_186 rfl ?_
    refine gb_bipush 13 d_X10_count_187 rfl ?_
    refine gb_isub d_X10_count_189 ?_
    obtain ⟨hi18, h⟩ := gb_ck_e h
    refine gb_iald_ ((x1 - 13).toNatClampNeg) rfl (ok_X0_1 hS).2.2.2.2.1 hi18 d_X10_count_190 ?_
    refine gb_goto 195 d_X10_count_191 (by decide) ?_
    cases h
    exact gb_iret d_X10_count_195 rfl ⟨rfl, rfl, rfl⟩
-- X10_status
noncomputable def f_X10_status (sh : List gb_Sh) (g : gb_G) : Option (gb_G × Int32) := some (g, (g.1 0 18))
set_option maxRecDepth 100000 in
set_option maxHeartbeats 4000000 in
theorem t_X10_status {Γ : gb_X} {sh : List gb_Sh} {out : gb_G × Int32} (hS : gb_S sh) {g : gb_G} (h : f_X10_status sh g = some out) : gb_C Γ M_X10_status 0 0 0 sh g [.ref 0] (gb_Ri sh out) := by
  refine gb_C.of rfl (Nat.le_of_ble_eq_true rfl) ?_
  refine gb_pick (lv' := [(0, .ref 0)]) [0] rfl ?_
  unfold f_X10_status at h
  refine gb_aload_n d_X10_status_0 rfl ?_
  refine gb_geti f_X10_108 (hS 0 _ rfl) rfl d_X10_status_1 ?_
  cases h
  exact gb_iret d_X10_status_4 rfl ⟨rfl, rfl, rfl⟩
-- X11_in
noncomputable def f_X11_in (sh : List gb_Sh) (g : gb_G) (x1 : Int64) (x2 : Int64) (x3 : Int64) : Option (gb_G × Int32) := if (lg_cmp x1 x2) < 0 then (some (g, 0)) else (if 0 < (lg_cmp x1 x3) then (some (g, 0)) else (some (g, 1)))
set_option maxRecDepth 100000 in
set_option maxHeartbeats 4000000 in
theorem t_X11_in {Γ : gb_X} {sh : List gb_Sh} {x1 : Int64} {x2 : Int64} {x3 : Int64} {out : gb_G × Int32} (hS : gb_S sh) {g : gb_G} (h : f_X11_in sh g x1 x2 x3 = some out) : gb_C Γ M_X11_in 0 0 0 sh g [.long x1, .long x2, .long x3] (gb_Ri sh out) := by
  refine gb_C.of rfl (Nat.le_of_ble_eq_true rfl) ?_
  refine gb_pick (lv' := [(0, .long x1), (2, .long x2), (4, .long x3)]) [0, 1, 2] rfl ?_
  unfold f_X11_in at h
  refine gb_lload_n d_X11_in_0 rfl ?_
  refine gb_lload_n d_X11_in_1 rfl ?_
  refine gb_lcmp d_X11_in_2 ?_
  refine gb_if_lt 17 d_X11_in_3 (by decide) (fun hc => ?_) (fun hc => ?_)
  · have h := gb_it hc h
    refine gb_iconst 0 d_X11_in_17 rfl ?_
    cases h
    exact gb_zret d_X11_in_18 rfl rfl ⟨rfl, rfl, rfl⟩
  · have h := gb_if hc h
    refine gb_lload_n d_X11_in_6 rfl ?_
    refine gb_lload d_X11_in_7 rfl ?_
    refine gb_lcmp d_X11_in_9 ?_
    refine gb_if_gt 17 d_X11_in_10 (by decide) (fun hc => ?_) (fun hc => ?_)
    · have h := gb_it hc h
      refine gb_iconst 0 d_X11_in_17 rfl ?_
      cases h
      exact gb_zret d_X11_in_18 rfl rfl ⟨rfl, rfl, rfl⟩
    · have h := gb_if hc h
      refine gb_iconst 1 d_X11_in_13 rfl ?_
      refine gb_goto 18 d_X11_in_14 (by decide) ?_
      cases h
      exact gb_zret d_X11_in_18 rfl rfl ⟨rfl, rfl, rfl⟩
-- X11_is
noncomputable def f_X11_is (sh : List gb_Sh) (g : gb_G) (x1 : Int32) (x2 : Int32) : Option (gb_G × Int32) := if ((x1 >>> (x2 &&& 31)) &&& 1) = 1 then (some (g, 1)) else (some (g, 0))
set_option maxRecDepth 100000 in
set_option maxHeartbeats 4000000 in
theorem t_X11_is {Γ : gb_X} {sh : List gb_Sh} {x1 : Int32} {x2 : Int32} {out : gb_G × Int32} (hS : gb_S sh) {g : gb_G} (h : f_X11_is sh g x1 x2 = some out) : gb_C Γ M_X11_is 0 0 0 sh g [.int x1, .int x2] (gb_Ri sh out) := by
  refine gb_C.of rfl (Nat.le_of_ble_eq_true rfl) ?_
  refine gb_pick (lv' := [(0, .int x1), (1, .int x2)]) [0, 1] rfl ?_
  unfold f_X11_is at h
  refine gb_iload_n d_X11_is_0 rfl ?_
  refine gb_iload_n d_X11_is_1 rfl ?_
  refine gb_ishr d_X11_is_2 ?_
  refine gb_iconst 1 d_X11_is_3 rfl ?_
  refine gb_iand d_X11_is_4 ?_
  refine gb_iconst 1 d_X11_is_5 rfl ?_
  refine gb_icmp_ne 13 d_X11_is_6 (by decide) (fun hc => ?_) (fun hc => ?_)
  · have h := gb_if hc h
    refine gb_iconst 0 d_X11_is_13 rfl ?_
    cases h
    exact gb_zret d_X11_is_14 rfl rfl ⟨rfl, rfl, rfl⟩
  · have h := gb_it hc h
    refine gb_iconst 1 d_X11_is_9 rfl ?_
    refine gb_goto 14 d_X11_is_10 (by decide) ?_
    cases h
    exact gb_zret d_X11_is_14 rfl rfl ⟨rfl, rfl, rfl⟩
-- X11_within
noncomputable def f_X11_within (sh : List gb_Sh) (g : gb_G) (x1 : Int64) (x2 : Int32) (x3 : Int32) : Option (gb_G × Int32) := if 0 ≤ (lg_cmp x1 x2.toInt64) then (if (lg_cmp x1 x3.toInt64) ≤ 0 then (some (g, x1.toInt32)) else (some (g, x3))) else (some (g, x2))
set_option maxRecDepth 100000 in
set_option maxHeartbeats 4000000 in
theorem t_X11_within {Γ : gb_X} {sh : List gb_Sh} {x1 : Int64} {x2 : Int32} {x3 : Int32} {out : gb_G × Int32} (hS : gb_S sh) {g : gb_G} (h : f_X11_within sh g x1 x2 x3 = some out) : gb_C Γ M_X11_within 0 0 0 sh g [.long x1, .int x2, .int x3] (gb_Ri sh out) := by
  refine gb_C.of rfl (Nat.le_of_ble_eq_true rfl) ?_
  refine gb_pick (lv' := [(0, .long x1), (2, .int x2), (3, .int x3)]) [0, 1, 2] rfl ?_
  unfold f_X11_within at h
  refine gb_lload_n d_X11_within_0 rfl ?_
  refine gb_iload_n d_X11_within_1 rfl ?_
  refine gb_i2l d_X11_within_2 ?_
  refine gb_lcmp d_X11_within_3 ?_
  refine gb_if_ge 11 d_X11_within_4 (by decide) (fun hc => ?_) (fun hc => ?_)
  · have h := gb_it hc h
    refine gb_lload_n d_X11_within_11 rfl ?_
    refine gb_iload_n d_X11_within_12 rfl ?_
    refine gb_i2l d_X11_within_13 ?_
    refine gb_lcmp d_X11_within_14 ?_
    refine gb_if_le 22 d_X11_within_15 (by decide) (fun hc => ?_) (fun hc => ?_)
    · have h := gb_it hc h
      refine gb_lload_n d_X11_within_22 rfl ?_
      refine gb_l2i d_X11_within_23 ?_
      cases h
      exact gb_iret d_X11_within_24 rfl ⟨rfl, rfl, rfl⟩
    · have h := gb_if hc h
      refine gb_iload_n d_X11_within_18 rfl ?_
      refine gb_goto 24 d_X11_within_19 (by decide) ?_
      cases h
      exact gb_iret d_X11_within_24 rfl ⟨rfl, rfl, rfl⟩
  · have h := gb_if hc h
    refine gb_iload_n d_X11_within_7 rfl ?_
    refine gb_goto 24 d_X11_within_8 (by decide) ?_
    cases h
    exact gb_iret d_X11_within_24 rfl ⟨rfl, rfl, rfl⟩
-- X11_tell
noncomputable def f_X11_tell_10 (sh : List gb_Sh) (g : gb_G) (y1 : Int32) (z0 : Int32) : Option (gb_G × Int32) := gb_let (gb_pi g 77 1 z0) (fun g1 => if 0 ≤ y1 then (some (g1, y1)) else (gb_ck (-y1) 7 (gb_ck (-y1) 7 (gb_let (gb_pi g1 78 ((-y1).toNatClampNeg) ((g1.1 78 ((-y1).toNatClampNeg)) + 1)) (fun g4 => some (g4, y1))))))
noncomputable def f_X11_tell (sh : List gb_Sh) (g : gb_G) (x1 : Int32) : Option (gb_G × Int32) := if 0 ≤ x1 then (f_X11_tell_10 sh g x1 0) else (f_X11_tell_10 sh g x1 x1)
set_option maxRecDepth 100000 in
set_option maxHeartbeats 4000000 in
theorem t_X11_tell_10 {Γ : gb_X} {sh : List gb_Sh} {out : gb_G × Int32} (hS : gb_S sh) : ∀ (g : gb_G) (y1 : Int32) (z0 : Int32), f_X11_tell_10 sh g y1 z0 = some out → gb_J Γ M_X11_tell 0 (gb_Ri sh out) 0 0 sh g 10 [(0, .ref 77), (1, .int y1)] [.int z0, .ref 77] := by
  intro g y1 z0 h
  unfold f_X11_tell_10 at h
  refine gb_puti f_X11_148 (fun h => nomatch h) (hS 77 _ rfl) rfl rfl rfl d_X11_tell_10 ?_
  have h := gb_let_e h
  generalize gb_pi g 77 1 z0 = g1 at h ⊢
  refine gb_iload_n d_X11_tell_13 rfl ?_
  refine gb_if_ge 28 d_X11_tell_14 (by decide) (fun hc => ?_) (fun hc => ?_)
  · have h := gb_it hc h
    refine gb_iload_n d_X11_tell_28 rfl ?_
    cases h
    exact gb_iret d_X11_tell_29 rfl ⟨rfl, rfl, rfl⟩
  · have h := gb_if hc h
    refine gb_aload_n d_X11_tell_17 rfl ?_
    refine gb_getr (r := 78) f_X11_7 (hS 77 _ rfl) rfl d_X11_tell_18 ?_
    refine gb_iload_n d_X11_tell_21 rfl ?_
    refine gb_ineg d_X11_tell_22 ?_
    refine gb_dup2 d_X11_tell_23 rfl rfl ?_
    obtain ⟨hi2, h⟩ := gb_ck_e h
    refine gb_iald_ ((-y1).toNatClampNeg) rfl (hS 78 _ rfl) hi2 d_X11_tell_24 ?_
    refine gb_iconst 1 d_X11_tell_25 rfl ?_
    refine gb_iadd d_X11_tell_26 ?_
    obtain ⟨hi3, h⟩ := gb_ck_e h
    refine gb_iast_ ((-y1).toNatClampNeg) rfl (hS 78 _ rfl) hi3 d_X11_tell_27 ?_
    have h := gb_let_e h
    generalize gb_pi g1 78 ((-y1).toNatClampNeg) ((g1.1 78 ((-y1).toNatClampNeg)) + 1) = g4 at h ⊢
    refine gb_iload_n d_X11_tell_28 rfl ?_
    cases h
    exact gb_iret d_X11_tell_29 rfl ⟨rfl, rfl, rfl⟩
set_option maxRecDepth 100000 in
set_option maxHeartbeats 4000000 in
theorem t_X11_tell {Γ : gb_X} {sh : List gb_Sh} {x1 : Int32} {out : gb_G × Int32} (hS : gb_S sh) {g : gb_G} (h : f_X11_tell sh g x1 = some out) : gb_C Γ M_X11_tell 0 0 0 sh g [.ref 77, .int x1] (gb_Ri sh out) := by
  refine gb_C.of rfl (Nat.le_of_ble_eq_true rfl) ?_
  refine gb_pick (lv' := [(0, .ref 77), (1, .int x1)]) [0, 1] rfl ?_
  unfold f_X11_tell at h
  refine gb_aload_n d_X11_tell_0 rfl ?_
  refine gb_iload_n d_X11_tell_1 rfl ?_
  refine gb_if_ge 9 d_X11_tell_2 (by decide) (fun hc => ?_) (fun hc => ?_)
  · have h := gb_it hc h
    refine gb_iconst 0 d_X11_tell_9 rfl ?_
    exact t_X11_tell_10 hS  _ x1 0 h
  · have h := gb_if hc h
    refine gb_iload_n d_X11_tell_5 rfl ?_
    refine gb_goto 10 d_X11_tell_6 (by decide) ?_
    exact t_X11_tell_10 hS  _ x1 x1 h
-- X11_change
noncomputable def f_X11_change (sh : List gb_Sh) (g : gb_G) (x1 : Int32) (x2 : Int32) : Option (gb_G × Int32) := gb_ck x1 5520 (gb_ck x1 5520 (gb_let (gb_pi g 79 x1.toNatClampNeg x2) (fun g3 => gb_let (gb_pi g3 77 1 0) (fun g4 => some (g4, (g.1 79 x1.toNatClampNeg))))))
set_option maxRecDepth 100000 in
set_option maxHeartbeats 4000000 in
theorem t_X11_change {Γ : gb_X} {sh : List gb_Sh} {x1 : Int32} {x2 : Int32} {out : gb_G × Int32} (hS : gb_S sh) {g : gb_G} (h : f_X11_change sh g x1 x2 = some out) : gb_C Γ M_X11_change 0 0 0 sh g [.ref 77, .int x1, .int x2] (gb_Ri sh out) := by
  refine gb_C.of rfl (Nat.le_of_ble_eq_true rfl) ?_
  refine gb_pick (lv' := [(0, .ref 77), (1, .int x1), (2, .int x2)]) [0, 1, 2] rfl ?_
  unfold f_X11_change at h
  refine gb_aload_n d_X11_change_0 rfl ?_
  refine gb_getr (r := 79) f_X11_13 (hS 77 _ rfl) rfl d_X11_change_1 ?_
  refine gb_iload_n d_X11_change_4 rfl ?_
  obtain ⟨hi1, h⟩ := gb_ck_e h
  refine gb_iald_ x1.toNatClampNeg rfl (hS 79 _ rfl) hi1 d_X11_change_5 ?_
  refine gb_istore_n [(3, .int (g.1 79 x1.toNatClampNeg)), (0, .ref 77), (1, .int x1), (2, .int x2)] d_X11_change_6 (Nat.le_of_ble_eq_true rfl) rfl ?_
  refine gb_aload_n d_X11_change_7 rfl ?_
  refine gb_getr (r := 79) f_X11_13 (hS 77 _ rfl) rfl d_X11_change_8 ?_
  refine gb_iload_n d_X11_change_11 rfl ?_
  refine gb_iload_n d_X11_change_12 rfl ?_
  obtain ⟨hi2, h⟩ := gb_ck_e h
  refine gb_iast_ x1.toNatClampNeg rfl (hS 79 _ rfl) hi2 d_X11_change_13 ?_
  have h := gb_let_e h
  generalize gb_pi g 79 x1.toNatClampNeg x2 = g3 at h ⊢
  refine gb_aload_n d_X11_change_14 rfl ?_
  refine gb_iconst 0 d_X11_change_15 rfl ?_
  refine gb_puti f_X11_148 (fun h => nomatch h) (hS 77 _ rfl) rfl rfl rfl d_X11_change_16 ?_
  have h := gb_let_e h
  generalize gb_pi g3 77 1 0 = g4 at h ⊢
  refine gb_iload_n d_X11_change_19 rfl ?_
  cases h
  exact gb_iret d_X11_change_20 rfl ⟨rfl, rfl, rfl⟩
-- X11_settled
noncomputable def f_X11_settled_13 (sh : List gb_Sh) (g : gb_G) (y1 : Int32) (z0 : Int32) : Option (gb_G × Int32) := gb_let (gb_pi g 77 8 z0) (fun g1 => gb_bd (f_X11_tell sh g1 y1) (fun r2 => some (r2.1, r2.2)))
noncomputable def f_X11_settled (sh : List gb_Sh) (g : gb_G) (x1 : Int32) : Option (gb_G × Int32) := if 0 ≤ x1 then (f_X11_settled_13 sh g x1 0) else (f_X11_settled_13 sh g x1 (g.1 77 8))
set_option maxRecDepth 100000 in
set_option maxHeartbeats 4000000 in
theorem t_X11_settled_13 {Γ : gb_X} {sh : List gb_Sh} {out : gb_G × Int32} (hS : gb_S sh) : ∀ (g : gb_G) (y1 : Int32) (z0 : Int32), f_X11_settled_13 sh g y1 z0 = some out → gb_J Γ M_X11_settled 1 (gb_Ri sh out) 0 0 sh g 13 [(0, .ref 77), (1, .int y1)] [.int z0, .ref 77] := by
  intro g y1 z0 h
  unfold f_X11_settled_13 at h
  refine gb_puti f_X11_151 (fun h => nomatch h) (hS 77 _ rfl) rfl rfl rfl d_X11_settled_13 ?_
  have h := gb_let_e h
  generalize gb_pi g 77 8 z0 = g1 at h ⊢
  refine gb_aload_n d_X11_settled_16 rfl ?_
  refine gb_iload_n d_X11_settled_17 rfl ?_
  obtain ⟨r2, e3, h⟩ := gb_bd_e h
  refine gb_cVi (As := [.int y1]) (rest := []) m_X11_154 (t_X11_tell (Γ := Γ) hS e3) (hS 77 _ rfl) rfl (Nat.le_of_ble_eq_true rfl) rfl rfl (Nat.le_of_ble_eq_true rfl) d_X11_settled_18 ?_
  cases h
  exact gb_iret d_X11_settled_21 rfl ⟨rfl, rfl, rfl⟩
set_option maxRecDepth 100000 in
set_option maxHeartbeats 4000000 in
theorem t_X11_settled {Γ : gb_X} {sh : List gb_Sh} {x1 : Int32} {out : gb_G × Int32} (hS : gb_S sh) {g : gb_G} (h : f_X11_settled sh g x1 = some out) : gb_C Γ M_X11_settled 1 0 0 sh g [.ref 77, .int x1] (gb_Ri sh out) := by
  refine gb_C.of rfl (Nat.le_of_ble_eq_true rfl) ?_
  refine gb_pick (lv' := [(0, .ref 77), (1, .int x1)]) [0, 1] rfl ?_
  unfold f_X11_settled at h
  refine gb_aload_n d_X11_settled_0 rfl ?_
  refine gb_iload_n d_X11_settled_1 rfl ?_
  refine gb_if_ge 12 d_X11_settled_2 (by decide) (fun hc => ?_) (fun hc => ?_)
  · have h := gb_it hc h
    refine gb_iconst 0 d_X11_settled_12 rfl ?_
    exact t_X11_settled_13 hS  _ x1 0 h
  · have h := gb_if hc h
    refine gb_aload_n d_X11_settled_5 rfl ?_
    refine gb_geti f_X11_151 (hS 77 _ rfl) rfl d_X11_settled_6 ?_
    refine gb_goto 13 d_X11_settled_9 (by decide) ?_
    exact t_X11_settled_13 hS  _ x1 (g.1 77 8) h
-- X11_keepAll
noncomputable def f_X11_keepAll_2 (sh : List gb_Sh) : Nat → gb_G → Int32 → Int32 → Option (gb_G)
  | 0, _, _, _ => none
  | n + 1, g, y1, y2 => if 27 ≤ y2 then (some g) else (gb_ck (5 + y2) 5520 (gb_ck ((27 * y1) + y2) 486 (gb_let (gb_pi g 82 (((27 * y1) + y2).toNatClampNeg) (g.1 79 ((5 + y2).toNatClampNeg))) (fun g3 => f_X11_keepAll_2 sh n g3 y1 (y2 + 1)))))
noncomputable def f_X11_keepAll (sh : List gb_Sh) (g : gb_G) (x1 : Int32) : Option (gb_G) := f_X11_keepAll_2 sh gb_N g x1 0
set_option maxRecDepth 100000 in
set_option maxHeartbeats 4000000 in
theorem t_X11_keepAll_2 {Γ : gb_X} {sh : List gb_Sh} {out : gb_G} (hS : gb_S sh) : ∀ (n : Nat) (g : gb_G) (y1 : Int32) (y2 : Int32), f_X11_keepAll_2 sh n g y1 y2 = some out → gb_J Γ M_X11_keepAll 0 (gb_Rv sh out) 0 0 sh g 2 [(0, .ref 77), (1, .int y1), (2, .int y2)] [] := by
  intro n
  induction n with
  | zero => intro g y1 y2 h; cases h
  | succ n ih =>
    intro g y1 y2 h
    rw [f_X11_keepAll_2] at h
    refine gb_iload_n d_X11_keepAll_2 rfl ?_
    refine gb_bipush 27 d_X11_keepAll_3 rfl ?_
    refine gb_icmp_ge 33 d_X11_keepAll_5 (by decide) (fun hc => ?_) (fun hc => ?_)
    · have h := gb_it hc h
      cases h
      exact gb_vret d_X11_keepAll_33 rfl ⟨rfl, rfl, rfl⟩
    · have h := gb_if hc h
      refine gb_aload_n d_X11_keepAll_8 rfl ?_
      refine gb_getr (r := 82) f_X11_23 (hS 77 _ rfl) rfl d_X11_keepAll_9 ?_
      refine gb_bipush 27 d_X11_keepAll_12 rfl ?_
      refine gb_iload_n d_X11_keepAll_14 rfl ?_
      refine gb_imul d_X11_keepAll_15 ?_
      refine gb_iload_n d_X11_keepAll_16 rfl ?_
      refine gb_iadd d_X11_keepAll_17 ?_
      refine gb_aload_n d_X11_keepAll_18 rfl ?_
      refine gb_getr (r := 79) f_X11_13 (hS 77 _ rfl) rfl d_X11_keepAll_19 ?_
      refine gb_iconst 5 d_X11_keepAll_22 rfl ?_
      refine gb_iload_n d_X11_keepAll_23 rfl ?_
      refine gb_iadd d_X11_keepAll_24 ?_
      obtain ⟨hi1, h⟩ := gb_ck_e h
      refine gb_iald_ ((5 + y2).toNatClampNeg) rfl (hS 79 _ rfl) hi1 d_X11_keepAll_25 ?_
      obtain ⟨hi2, h⟩ := gb_ck_e h
      refine gb_iast_ (((27 * y1) + y2).toNatClampNeg) rfl (hS 82 _ rfl) hi2 d_X11_keepAll_26 ?_
      have h := gb_let_e h
      generalize gb_pi g 82 (((27 * y1) + y2).toNatClampNeg) (g.1 79 ((5 + y2).toNatClampNeg)) = g3 at h ⊢
      refine gb_iinc (y2 + 1) [(2, .int (y2 + 1)), (0, .ref 77), (1, .int y1)] d_X11_keepAll_27 (Nat.le_of_ble_eq_true rfl) rfl rfl rfl ?_
      refine gb_goto 2 d_X11_keepAll_30 (by decide) ?_
      refine gb_pick (lv' := [(0, .ref 77), (1, .int y1), (2, .int (y2 + 1))]) [1, 2, 0] rfl ?_
      exact ih _ y1 (y2 + 1) h
set_option maxRecDepth 100000 in
set_option maxHeartbeats 4000000 in
theorem t_X11_keepAll {Γ : gb_X} {sh : List gb_Sh} {x1 : Int32} {out : gb_G} (hS : gb_S sh) {g : gb_G} (h : f_X11_keepAll sh g x1 = some out) : gb_C Γ M_X11_keepAll 0 0 0 sh g [.ref 77, .int x1] (gb_Rv sh out) := by
  refine gb_C.of rfl (Nat.le_of_ble_eq_true rfl) ?_
  refine gb_pick (lv' := [(0, .ref 77), (1, .int x1)]) [0, 1] rfl ?_
  unfold f_X11_keepAll at h
  refine gb_iconst 0 d_X11_keepAll_0 rfl ?_
  refine gb_istore_n [(2, .int 0), (0, .ref 77), (1, .int x1)] d_X11_keepAll_1 (Nat.le_of_ble_eq_true rfl) rfl ?_
  refine gb_pick (lv' := [(0, .ref 77), (1, .int x1), (2, .int 0)]) [1, 2, 0] rfl ?_
  exact t_X11_keepAll_2 hS  gb_N _ x1 0 h
-- X11_putBack
noncomputable def f_X11_putBack_2 (sh : List gb_Sh) : Nat → gb_G → Int32 → Int32 → Option (gb_G)
  | 0, _, _, _ => none
  | n + 1, g, y1, y2 => if 27 ≤ y2 then (some g) else (gb_ck ((27 * y1) + y2) 486 (gb_ck (5 + y2) 5520 (gb_let (gb_pi g 79 ((5 + y2).toNatClampNeg) (g.1 82 (((27 * y1) + y2).toNatClampNeg))) (fun g3 => f_X11_putBack_2 sh n g3 y1 (y2 + 1)))))
noncomputable def f_X11_putBack (sh : List gb_Sh) (g : gb_G) (x1 : Int32) : Option (gb_G) := f_X11_putBack_2 sh gb_N g x1 0
set_option maxRecDepth 100000 in
set_option maxHeartbeats 4000000 in
theorem t_X11_putBack_2 {Γ : gb_X} {sh : List gb_Sh} {out : gb_G} (hS : gb_S sh) : ∀ (n : Nat) (g : gb_G) (y1 : Int32) (y2 : Int32), f_X11_putBack_2 sh n g y1 y2 = some out → gb_J Γ M_X11_putBack 0 (gb_Rv sh out) 0 0 sh g 2 [(0, .ref 77), (1, .int y1), (2, .int y2)] [] := by
  intro n
  induction n with
  | zero => intro g y1 y2 h; cases h
  | succ n ih =>
    intro g y1 y2 h
    rw [f_X11_putBack_2] at h
    refine gb_iload_n d_X11_putBack_2 rfl ?_
    refine gb_bipush 27 d_X11_putBack_3 rfl ?_
    refine gb_icmp_ge 33 d_X11_putBack_5 (by decide) (fun hc => ?_) (fun hc => ?_)
    · have h := gb_it hc h
      cases h
      exact gb_vret d_X11_putBack_33 rfl ⟨rfl, rfl, rfl⟩
    · have h := gb_if hc h
      refine gb_aload_n d_X11_putBack_8 rfl ?_
      refine gb_getr (r := 79) f_X11_13 (hS 77 _ rfl) rfl d_X11_putBack_9 ?_
      refine gb_iconst 5 d_X11_putBack_12 rfl ?_
      refine gb_iload_n d_X11_putBack_13 rfl ?_
      refine gb_iadd d_X11_putBack_14 ?_
      refine gb_aload_n d_X11_putBack_15 rfl ?_
      refine gb_getr (r := 82) f_X11_23 (hS 77 _ rfl) rfl d_X11_putBack_16 ?_
      refine gb_bipush 27 d_X11_putBack_19 rfl ?_
      refine gb_iload_n d_X11_putBack_21 rfl ?_
      refine gb_imul d_X11_putBack_22 ?_
      refine gb_iload_n d_X11_putBack_23 rfl ?_
      refine gb_iadd d_X11_putBack_24 ?_
      obtain ⟨hi1, h⟩ := gb_ck_e h
      refine gb_iald_ (((27 * y1) + y2).toNatClampNeg) rfl (hS 82 _ rfl) hi1 d_X11_putBack_25 ?_
      obtain ⟨hi2, h⟩ := gb_ck_e h
      refine gb_iast_ ((5 + y2).toNatClampNeg) rfl (hS 79 _ rfl) hi2 d_X11_putBack_26 ?_
      have h := gb_let_e h
      generalize gb_pi g 79 ((5 + y2).toNatClampNeg) (g.1 82 (((27 * y1) + y2).toNatClampNeg)) = g3 at h ⊢
      refine gb_iinc (y2 + 1) [(2, .int (y2 + 1)), (0, .ref 77), (1, .int y1)] d_X11_putBack_27 (Nat.le_of_ble_eq_true rfl) rfl rfl rfl ?_
      refine gb_goto 2 d_X11_putBack_30 (by decide) ?_
      refine gb_pick (lv' := [(0, .ref 77), (1, .int y1), (2, .int (y2 + 1))]) [1, 2, 0] rfl ?_
      exact ih _ y1 (y2 + 1) h
set_option maxRecDepth 100000 in
set_option maxHeartbeats 4000000 in
theorem t_X11_putBack {Γ : gb_X} {sh : List gb_Sh} {x1 : Int32} {out : gb_G} (hS : gb_S sh) {g : gb_G} (h : f_X11_putBack sh g x1 = some out) : gb_C Γ M_X11_putBack 0 0 0 sh g [.ref 77, .int x1] (gb_Rv sh out) := by
  refine gb_C.of rfl (Nat.le_of_ble_eq_true rfl) ?_
  refine gb_pick (lv' := [(0, .ref 77), (1, .int x1)]) [0, 1] rfl ?_
  unfold f_X11_putBack at h
  refine gb_iconst 0 d_X11_putBack_0 rfl ?_
  refine gb_istore_n [(2, .int 0), (0, .ref 77), (1, .int x1)] d_X11_putBack_1 (Nat.le_of_ble_eq_true rfl) rfl ?_
  refine gb_pick (lv' := [(0, .ref 77), (1, .int x1), (2, .int 0)]) [1, 2, 0] rfl ?_
  exact t_X11_putBack_2 hS  gb_N _ x1 0 h
-- X11_remember
noncomputable def f_X11_remember_77 (sh : List gb_Sh) (g : gb_G) (y1 : Int32) : Option (gb_G) := gb_bd (f_X11_keepAll sh g (g.1 77 8)) (fun r1 => gb_ck (r1.1 77 8) 16 (gb_let (gb_pi r1 83 ((r1.1 77 8).toNatClampNeg) y1) (fun g4 => gb_let (gb_pi g4 77 8 ((g4.1 77 8) + 1)) (fun g5 => some g5))))
noncomputable def f_X11_remember_41 (sh : List gb_Sh) (K77 : gb_G → Int32 → Option (gb_G)) : Nat → gb_G → Int32 → Int32 → Option (gb_G)
  | 0, _, _, _ => none
  | n + 1, g, y1, y2 => if 15 ≤ y2 then (gb_let (gb_pi g 77 8 ((g.1 77 8) - 1)) (fun g6 => K77 g6 y1)) else (gb_ck (y2 + 1) 16 (gb_ck y2 16 (gb_let (gb_pi g 83 y2.toNatClampNeg (g.1 83 ((y2 + 1).toNatClampNeg))) (fun g9 => f_X11_remember_41 sh K77 n g9 y1 (y2 + 1)))))
noncomputable def f_X11_remember_11 (sh : List gb_Sh) (K77 : gb_G → Int32 → Option (gb_G)) : Nat → gb_G → Int32 → Int32 → Option (gb_G)
  | 0, _, _, _ => none
  | n + 1, g, y1, y2 => if 405 ≤ y2 then (f_X11_remember_41 sh K77 gb_N g y1 0) else (gb_ck (y2 + 27) 486 (gb_ck y2 486 (gb_let (gb_pi g 82 y2.toNatClampNeg (g.1 82 ((y2 + 27).toNatClampNeg))) (fun g12 => f_X11_remember_11 sh K77 n g12 y1 (y2 + 1)))))
noncomputable def f_X11_remember (sh : List gb_Sh) (g : gb_G) (x1 : Int32) : Option (gb_G) := if (g.1 77 8) = 16 then (f_X11_remember_11 sh (fun w w0 => f_X11_remember_77 sh w w0) gb_N g x1 0) else (f_X11_remember_77 sh g x1)
set_option maxRecDepth 100000 in
set_option maxHeartbeats 4000000 in
theorem t_X11_remember_77 {Γ : gb_X} {sh : List gb_Sh} {out : gb_G} (hS : gb_S sh) : ∀ (g : gb_G) (y1 : Int32), f_X11_remember_77 sh g y1 = some out → gb_J Γ M_X11_remember 1 (gb_Rv sh out) 0 0 sh g 77 [(0, .ref 77), (1, .int y1)] [] := by
  intro g y1 h
  unfold f_X11_remember_77 at h
  refine gb_aload_n d_X11_remember_77 rfl ?_
  refine gb_aload_n d_X11_remember_78 rfl ?_
  refine gb_geti f_X11_151 (hS 77 _ rfl) rfl d_X11_remember_79 ?_
  obtain ⟨r1, e2, h⟩ := gb_bd_e h
  refine gb_cVv (As := [.int (g.1 77 8)]) (rest := []) m_X11_158 (t_X11_keepAll (Γ := Γ) hS e2) (hS 77 _ rfl) rfl (Nat.le_of_ble_eq_true rfl) rfl rfl (Nat.le_of_ble_eq_true rfl) d_X11_remember_82 ?_
  refine gb_aload_n d_X11_remember_85 rfl ?_
  refine gb_getr (r := 83) f_X11_26 (hS 77 _ rfl) rfl d_X11_remember_86 ?_
  refine gb_aload_n d_X11_remember_89 rfl ?_
  refine gb_geti f_X11_151 (hS 77 _ rfl) rfl d_X11_remember_90 ?_
  refine gb_iload_n d_X11_remember_93 rfl ?_
  obtain ⟨hi3, h⟩ := gb_ck_e h
  refine gb_iast_ ((r1.1 77 8).toNatClampNeg) rfl (hS 83 _ rfl) hi3 d_X11_remember_94 ?_
  have h := gb_let_e h
  generalize gb_pi r1 83 ((r1.1 77 8).toNatClampNeg) y1 = g4 at h ⊢
  refine gb_aload_n d_X11_remember_95 rfl ?_
  refine gb_dup d_X11_remember_96 rfl ?_
  refine gb_geti f_X11_151 (hS 77 _ rfl) rfl d_X11_remember_97 ?_
  refine gb_iconst 1 d_X11_remember_100 rfl ?_
  refine gb_iadd d_X11_remember_101 ?_
  refine gb_puti f_X11_151 (fun h => nomatch h) (hS 77 _ rfl) rfl rfl rfl d_X11_remember_102 ?_
  have h := gb_let_e h
  generalize gb_pi g4 77 8 ((g4.1 77 8) + 1) = g5 at h ⊢
  cases h
  exact gb_vret d_X11_remember_105 rfl ⟨rfl, rfl, rfl⟩
set_option maxRecDepth 100000 in
set_option maxHeartbeats 4000000 in
theorem t_X11_remember_41 {Γ : gb_X} {sh : List gb_Sh} {out : gb_G} (hS : gb_S sh) {K77 : gb_G → Int32 → Option (gb_G)} (hK77 : ∀ (g : gb_G) (y1 : Int32), K77 g y1 = some out → gb_J Γ M_X11_remember 1 (gb_Rv sh out) 0 0 sh g 77 [(0, .ref 77), (1, .int y1)] []) : ∀ (n : Nat) (g : gb_G) (y1 : Int32) (y2 : Int32), f_X11_remember_41 sh K77 n g y1 y2 = some out → gb_J Γ M_X11_remember 1 (gb_Rv sh out) 0 0 sh g 41 [(0, .ref 77), (1, .int y1), (2, .int y2)] [] := by
  intro n
  induction n with
  | zero => intro g y1 y2 h; cases h
  | succ n ih =>
    intro g y1 y2 h
    rw [f_X11_remember_41] at h
    refine gb_iload_n d_X11_remember_41 rfl ?_
    refine gb_bipush 15 d_X11_remember_42 rfl ?_
    refine gb_icmp_ge 67 d_X11_remember_44 (by decide) (fun hc => ?_) (fun hc => ?_)
    · have h := gb_it hc h
      refine gb_aload_n d_X11_remember_67 rfl ?_
      refine gb_dup d_X11_remember_68 rfl ?_
      refine gb_geti f_X11_151 (hS 77 _ rfl) rfl d_X11_remember_69 ?_
      refine gb_iconst 1 d_X11_remember_72 rfl ?_
      refine gb_isub d_X11_remember_73 ?_
      refine gb_puti f_X11_151 (fun h => nomatch h) (hS 77 _ rfl) rfl rfl rfl d_X11_remember_74 ?_
      have h := gb_let_e h
      generalize gb_pi g 77 8 ((g.1 77 8) - 1) = g6 at h ⊢
      refine gb_pick (lv' := [(0, .ref 77), (1, .int y1)]) [0, 1] rfl ?_
      exact hK77 _ y1 h
    · have h := gb_if hc h
      refine gb_aload_n d_X11_remember_47 rfl ?_
      refine gb_getr (r := 83) f_X11_26 (hS 77 _ rfl) rfl d_X11_remember_48 ?_
      refine gb_iload_n d_X11_remember_51 rfl ?_
      refine gb_aload_n d_X11_remember_52 rfl ?_
      refine gb_getr (r := 83) f_X11_26 (hS 77 _ rfl) rfl d_X11_remember_53 ?_
      refine gb_iload_n d_X11_remember_56 rfl ?_
      refine gb_iconst 1 d_X11_remember_57 rfl ?_
      refine gb_iadd d_X11_remember_58 ?_
      obtain ⟨hi7, h⟩ := gb_ck_e h
      refine gb_iald_ ((y2 + 1).toNatClampNeg) rfl (hS 83 _ rfl) hi7 d_X11_remember_59 ?_
      obtain ⟨hi8, h⟩ := gb_ck_e h
      refine gb_iast_ y2.toNatClampNeg rfl (hS 83 _ rfl) hi8 d_X11_remember_60 ?_
      have h := gb_let_e h
      generalize gb_pi g 83 y2.toNatClampNeg (g.1 83 ((y2 + 1).toNatClampNeg)) = g9 at h ⊢
      refine gb_iinc (y2 + 1) [(2, .int (y2 + 1)), (0, .ref 77), (1, .int y1)] d_X11_remember_61 (Nat.le_of_ble_eq_true rfl) rfl rfl rfl ?_
      refine gb_goto 41 d_X11_remember_64 (by decide) ?_
      refine gb_pick (lv' := [(0, .ref 77), (1, .int y1), (2, .int (y2 + 1))]) [1, 2, 0] rfl ?_
      exact ih _ y1 (y2 + 1) h
set_option maxRecDepth 100000 in
set_option maxHeartbeats 4000000 in
theorem t_X11_remember_11 {Γ : gb_X} {sh : List gb_Sh} {out : gb_G} (hS : gb_S sh) {K77 : gb_G → Int32 → Option (gb_G)} (hK77 : ∀ (g : gb_G) (y1 : Int32), K77 g y1 = some out → gb_J Γ M_X11_remember 1 (gb_Rv sh out) 0 0 sh g 77 [(0, .ref 77), (1, .int y1)] []) : ∀ (n : Nat) (g : gb_G) (y1 : Int32) (y2 : Int32), f_X11_remember_11 sh K77 n g y1 y2 = some out → gb_J Γ M_X11_remember 1 (gb_Rv sh out) 0 0 sh g 11 [(0, .ref 77), (1, .int y1), (2, .int y2)] [] := by
  intro n
  induction n with
  | zero => intro g y1 y2 h; cases h
  | succ n ih =>
    intro g y1 y2 h
    rw [f_X11_remember_11] at h
    refine gb_iload_n d_X11_remember_11 rfl ?_
    refine gb_sipush 405 d_X11_remember_12 rfl ?_
    refine gb_icmp_ge 39 d_X11_remember_15 (by decide) (fun hc => ?_) (fun hc => ?_)
    · have h := gb_it hc h
      refine gb_iconst 0 d_X11_remember_39 rfl ?_
      refine gb_istore_n [(2, .int 0), (0, .ref 77), (1, .int y1)] d_X11_remember_40 (Nat.le_of_ble_eq_true rfl) rfl ?_
      refine gb_pick (lv' := [(0, .ref 77), (1, .int y1), (2, .int 0)]) [1, 2, 0] rfl ?_
      exact t_X11_remember_41 hS hK77 gb_N _ y1 0 h
    · have h := gb_if hc h
      refine gb_aload_n d_X11_remember_18 rfl ?_
      refine gb_getr (r := 82) f_X11_23 (hS 77 _ rfl) rfl d_X11_remember_19 ?_
      refine gb_iload_n d_X11_remember_22 rfl ?_
      refine gb_aload_n d_X11_remember_23 rfl ?_
      refine gb_getr (r := 82) f_X11_23 (hS 77 _ rfl) rfl d_X11_remember_24 ?_
      refine gb_iload_n d_X11_remember_27 rfl ?_
      refine gb_bipush 27 d_X11_remember_28 rfl ?_
      refine gb_iadd d_X11_remember_30 ?_
      obtain ⟨hi10, h⟩ := gb_ck_e h
      refine gb_iald_ ((y2 + 27).toNatClampNeg) rfl (hS 82 _ rfl) hi10 d_X11_remember_31 ?_
      obtain ⟨hi11, h⟩ := gb_ck_e h
      refine gb_iast_ y2.toNatClampNeg rfl (hS 82 _ rfl) hi11 d_X11_remember_32 ?_
      have h := gb_let_e h
      generalize gb_pi g 82 y2.toNatClampNeg (g.1 82 ((y2 + 27).toNatClampNeg)) = g12 at h ⊢
      refine gb_iinc (y2 + 1) [(2, .int (y2 + 1)), (0, .ref 77), (1, .int y1)] d_X11_remember_33 (Nat.le_of_ble_eq_true rfl) rfl rfl rfl ?_
      refine gb_goto 11 d_X11_remember_36 (by decide) ?_
      refine gb_pick (lv' := [(0, .ref 77), (1, .int y1), (2, .int (y2 + 1))]) [1, 2, 0] rfl ?_
      exact ih _ y1 (y2 + 1) h
set_option maxRecDepth 100000 in
set_option maxHeartbeats 4000000 in
theorem t_X11_remember {Γ : gb_X} {sh : List gb_Sh} {x1 : Int32} {out : gb_G} (hS : gb_S sh) {g : gb_G} (h : f_X11_remember sh g x1 = some out) : gb_C Γ M_X11_remember 1 0 0 sh g [.ref 77, .int x1] (gb_Rv sh out) := by
  refine gb_C.of rfl (Nat.le_of_ble_eq_true rfl) ?_
  refine gb_pick (lv' := [(0, .ref 77), (1, .int x1)]) [0, 1] rfl ?_
  unfold f_X11_remember at h
  refine gb_aload_n d_X11_remember_0 rfl ?_
  refine gb_geti f_X11_151 (hS 77 _ rfl) rfl d_X11_remember_1 ?_
  refine gb_bipush 16 d_X11_remember_4 rfl ?_
  refine gb_icmp_ne 77 d_X11_remember_6 (by decide) (fun hc => ?_) (fun hc => ?_)
  · have h := gb_if hc h
    exact t_X11_remember_77 hS  _ x1 h
  · have h := gb_it hc h
    refine gb_iconst 0 d_X11_remember_9 rfl ?_
    refine gb_istore_n [(2, .int 0), (0, .ref 77), (1, .int x1)] d_X11_remember_10 (Nat.le_of_ble_eq_true rfl) rfl ?_
    refine gb_pick (lv' := [(0, .ref 77), (1, .int x1), (2, .int 0)]) [1, 2, 0] rfl ?_
    exact t_X11_remember_11 hS (fun w w0 hw => t_X11_remember_77 hS  w w0 hw) gb_N _ x1 0 h
-- X11_undo
noncomputable def f_X11_undo (sh : List gb_Sh) (g : gb_G) : Option (gb_G × Int32) := gb_let (gb_pi g 77 0 0) (fun g1 => if (g1.1 77 8) = 0 then (gb_bd (f_X11_tell sh g1 (-3)) (fun r8 => some (r8.1, r8.2))) else (gb_let (gb_pi g1 77 8 ((g1.1 77 8) - 1)) (fun g2 => gb_bd (f_X11_putBack sh g2 (g2.1 77 8)) (fun r3 => gb_ck (r3.1 77 8) 16 (gb_bd (f_X11_tell sh r3 (r3.1 83 ((r3.1 77 8).toNatClampNeg))) (fun r6 => some (r6.1, r6.2)))))))
set_option maxRecDepth 100000 in
set_option maxHeartbeats 4000000 in
theorem t_X11_undo {Γ : gb_X} {sh : List gb_Sh} {out : gb_G × Int32} (hS : gb_S sh) {g : gb_G} (h : f_X11_undo sh g = some out) : gb_C Γ M_X11_undo 1 0 0 sh g [.ref 77] (gb_Ri sh out) := by
  refine gb_C.of rfl (Nat.le_of_ble_eq_true rfl) ?_
  refine gb_pick (lv' := [(0, .ref 77)]) [0] rfl ?_
  unfold f_X11_undo at h
  refine gb_aload_n d_X11_undo_0 rfl ?_
  refine gb_iconst 0 d_X11_undo_1 rfl ?_
  refine gb_puti f_X11_145 (fun h => nomatch h) (hS 77 _ rfl) rfl rfl rfl d_X11_undo_2 ?_
  have h := gb_let_e h
  generalize gb_pi g 77 0 0 = g1 at h ⊢
  refine gb_aload_n d_X11_undo_5 rfl ?_
  refine gb_geti f_X11_151 (hS 77 _ rfl) rfl d_X11_undo_6 ?_
  refine gb_if_ne 19 d_X11_undo_9 (by decide) (fun hc => ?_) (fun hc => ?_)
  · have h := gb_if hc h
    refine gb_aload_n d_X11_undo_19 rfl ?_
    refine gb_dup d_X11_undo_20 rfl ?_
    refine gb_geti f_X11_151 (hS 77 _ rfl) rfl d_X11_undo_21 ?_
    refine gb_iconst 1 d_X11_undo_24 rfl ?_
    refine gb_isub d_X11_undo_25 ?_
    refine gb_puti f_X11_151 (fun h => nomatch h) (hS 77 _ rfl) rfl rfl rfl d_X11_undo_26 ?_
    have h := gb_let_e h
    generalize gb_pi g1 77 8 ((g1.1 77 8) - 1) = g2 at h ⊢
    refine gb_aload_n d_X11_undo_29 rfl ?_
    refine gb_aload_n d_X11_undo_30 rfl ?_
    refine gb_geti f_X11_151 (hS 77 _ rfl) rfl d_X11_undo_31 ?_
    obtain ⟨r3, e4, h⟩ := gb_bd_e h
    refine gb_cVv (As := [.int (g2.1 77 8)]) (rest := []) m_X11_162 (t_X11_putBack (Γ := Γ) hS e4) (hS 77 _ rfl) rfl (Nat.le_of_ble_eq_true rfl) rfl rfl (Nat.le_of_ble_eq_true rfl) d_X11_undo_34 ?_
    refine gb_aload_n d_X11_undo_37 rfl ?_
    refine gb_aload_n d_X11_undo_38 rfl ?_
    refine gb_getr (r := 83) f_X11_26 (hS 77 _ rfl) rfl d_X11_undo_39 ?_
    refine gb_aload_n d_X11_undo_42 rfl ?_
    refine gb_geti f_X11_151 (hS 77 _ rfl) rfl d_X11_undo_43 ?_
    obtain ⟨hi5, h⟩ := gb_ck_e h
    refine gb_iald_ ((r3.1 77 8).toNatClampNeg) rfl (hS 83 _ rfl) hi5 d_X11_undo_46 ?_
    obtain ⟨r6, e7, h⟩ := gb_bd_e h
    refine gb_cVi (As := [.int (r3.1 83 ((r3.1 77 8).toNatClampNeg))]) (rest := []) m_X11_154 (t_X11_tell (Γ := Γ) hS e7) (hS 77 _ rfl) rfl (Nat.le_of_ble_eq_true rfl) rfl rfl (Nat.le_of_ble_eq_true rfl) d_X11_undo_47 ?_
    cases h
    exact gb_iret d_X11_undo_50 rfl ⟨rfl, rfl, rfl⟩
  · have h := gb_it hc h
    refine gb_aload_n d_X11_undo_12 rfl ?_
    refine gb_bipush (-3) d_X11_undo_13 rfl ?_
    obtain ⟨r8, e9, h⟩ := gb_bd_e h
    refine gb_cVi (As := [.int (-3)]) (rest := []) m_X11_154 (t_X11_tell (Γ := Γ) hS e9) (hS 77 _ rfl) rfl (Nat.le_of_ble_eq_true rfl) rfl rfl (Nat.le_of_ble_eq_true rfl) d_X11_undo_15 ?_
    cases h
    exact gb_iret d_X11_undo_18 rfl ⟨rfl, rfl, rfl⟩
-- X11_image
noncomputable def f_X11_image_23 (sh : List gb_Sh) : Nat → gb_G → Int32 → Int32 → Option (gb_G × Int32)
  | 0, _, _, _ => none
  | n + 1, g, y1, y2 => if 5520 ≤ y2 then (gb_ck y1 2 (gb_let (gb_pi g 81 y1.toNatClampNeg 1) (fun g5 => gb_bd (f_X11_tell sh g5 0) (fun r6 => some (r6.1, r6.2))))) else (gb_ck y2 5520 (gb_ck ((5520 * y1) + y2) 11040 (gb_let (gb_pi g 80 (((5520 * y1) + y2).toNatClampNeg) (g.1 79 y2.toNatClampNeg)) (fun g10 => f_X11_image_23 sh n g10 y1 (y2 + 1)))))
noncomputable def f_X11_image (sh : List gb_Sh) (g : gb_G) (x1 : Int32) : Option (gb_G × Int32) := gb_let (gb_pi g 77 0 0) (fun g1 => gb_bd (f_X11_in sh g1 x1.toInt64 0 1) (fun r2 => if r2.2 = 0 then (gb_bd (f_X11_tell sh r2.1 (-1)) (fun r11 => some (r11.1, r11.2))) else (f_X11_image_23 sh gb_N r2.1 x1 0)))
set_option maxRecDepth 100000 in
set_option maxHeartbeats 4000000 in
theorem t_X11_image_23 {Γ : gb_X} {sh : List gb_Sh} {out : gb_G × Int32} (hS : gb_S sh) : ∀ (n : Nat) (g : gb_G) (y1 : Int32) (y2 : Int32), f_X11_image_23 sh n g y1 y2 = some out → gb_J Γ M_X11_image 1 (gb_Ri sh out) 0 0 sh g 23 [(0, .ref 77), (1, .int y1), (2, .int y2)] [] := by
  intro n
  induction n with
  | zero => intro g y1 y2 h; cases h
  | succ n ih =>
    intro g y1 y2 h
    rw [f_X11_image_23] at h
    refine gb_iload_n d_X11_image_23 rfl ?_
    refine gb_sipush 5520 d_X11_image_24 rfl ?_
    refine gb_icmp_ge 54 d_X11_image_27 (by decide) (fun hc => ?_) (fun hc => ?_)
    · have h := gb_it hc h
      refine gb_aload_n d_X11_image_54 rfl ?_
      refine gb_getr (r := 81) f_X11_19 (hS 77 _ rfl) rfl d_X11_image_55 ?_
      refine gb_iload_n d_X11_image_58 rfl ?_
      refine gb_iconst 1 d_X11_image_59 rfl ?_
      obtain ⟨hi4, h⟩ := gb_ck_e h
      refine gb_zast_ y1.toNatClampNeg rfl (hS 81 _ rfl) hi4 rfl d_X11_image_60 ?_
      have h := gb_let_e h
      generalize gb_pi g 81 y1.toNatClampNeg 1 = g5 at h ⊢
      refine gb_aload_n d_X11_image_61 rfl ?_
      refine gb_iconst 0 d_X11_image_62 rfl ?_
      obtain ⟨r6, e7, h⟩ := gb_bd_e h
      refine gb_cVi (As := [.int 0]) (rest := []) m_X11_154 (t_X11_tell (Γ := Γ) hS e7) (hS 77 _ rfl) rfl (Nat.le_of_ble_eq_true rfl) rfl rfl (Nat.le_of_ble_eq_true rfl) d_X11_image_63 ?_
      cases h
      exact gb_iret d_X11_image_66 rfl ⟨rfl, rfl, rfl⟩
    · have h := gb_if hc h
      refine gb_aload_n d_X11_image_30 rfl ?_
      refine gb_getr (r := 80) f_X11_16 (hS 77 _ rfl) rfl d_X11_image_31 ?_
      refine gb_sipush 5520 d_X11_image_34 rfl ?_
      refine gb_iload_n d_X11_image_37 rfl ?_
      refine gb_imul d_X11_image_38 ?_
      refine gb_iload_n d_X11_image_39 rfl ?_
      refine gb_iadd d_X11_image_40 ?_
      refine gb_aload_n d_X11_image_41 rfl ?_
      refine gb_getr (r := 79) f_X11_13 (hS 77 _ rfl) rfl d_X11_image_42 ?_
      refine gb_iload_n d_X11_image_45 rfl ?_
      obtain ⟨hi8, h⟩ := gb_ck_e h
      refine gb_iald_ y2.toNatClampNeg rfl (hS 79 _ rfl) hi8 d_X11_image_46 ?_
      obtain ⟨hi9, h⟩ := gb_ck_e h
      refine gb_iast_ (((5520 * y1) + y2).toNatClampNeg) rfl (hS 80 _ rfl) hi9 d_X11_image_47 ?_
      have h := gb_let_e h
      generalize gb_pi g 80 (((5520 * y1) + y2).toNatClampNeg) (g.1 79 y2.toNatClampNeg) = g10 at h ⊢
      refine gb_iinc (y2 + 1) [(2, .int (y2 + 1)), (0, .ref 77), (1, .int y1)] d_X11_image_48 (Nat.le_of_ble_eq_true rfl) rfl rfl rfl ?_
      refine gb_goto 23 d_X11_image_51 (by decide) ?_
      refine gb_pick (lv' := [(0, .ref 77), (1, .int y1), (2, .int (y2 + 1))]) [1, 2, 0] rfl ?_
      exact ih _ y1 (y2 + 1) h
set_option maxRecDepth 100000 in
set_option maxHeartbeats 4000000 in
theorem t_X11_image {Γ : gb_X} {sh : List gb_Sh} {x1 : Int32} {out : gb_G × Int32} (hS : gb_S sh) {g : gb_G} (h : f_X11_image sh g x1 = some out) : gb_C Γ M_X11_image 1 0 0 sh g [.ref 77, .int x1] (gb_Ri sh out) := by
  refine gb_C.of rfl (Nat.le_of_ble_eq_true rfl) ?_
  refine gb_pick (lv' := [(0, .ref 77), (1, .int x1)]) [0, 1] rfl ?_
  unfold f_X11_image at h
  refine gb_aload_n d_X11_image_0 rfl ?_
  refine gb_iconst 0 d_X11_image_1 rfl ?_
  refine gb_puti f_X11_145 (fun h => nomatch h) (hS 77 _ rfl) rfl rfl rfl d_X11_image_2 ?_
  have h := gb_let_e h
  generalize gb_pi g 77 0 0 = g1 at h ⊢
  refine gb_iload_n d_X11_image_5 rfl ?_
  refine gb_i2l d_X11_image_6 ?_
  refine gb_lconst 0 d_X11_image_7 rfl ?_
  refine gb_lconst 1 d_X11_image_8 rfl ?_
  obtain ⟨r2, e3, h⟩ := gb_bd_e h
  refine gb_cSi (As := [.long x1.toInt64, .long 0, .long 1]) (rest := []) m_X11_165 (t_X11_in (Γ := Γ) hS e3) (Nat.le_of_ble_eq_true rfl) rfl rfl (Nat.le_of_ble_eq_true rfl) d_X11_image_9 ?_
  refine gb_if_ne 21 d_X11_image_12 (by decide) (fun hc => ?_) (fun hc => ?_)
  · have h := gb_if hc h
    refine gb_iconst 0 d_X11_image_21 rfl ?_
    refine gb_istore_n [(2, .int 0), (0, .ref 77), (1, .int x1)] d_X11_image_22 (Nat.le_of_ble_eq_true rfl) rfl ?_
    refine gb_pick (lv' := [(0, .ref 77), (1, .int x1), (2, .int 0)]) [1, 2, 0] rfl ?_
    exact t_X11_image_23 hS  gb_N _ x1 0 h
  · have h := gb_it hc h
    refine gb_aload_n d_X11_image_15 rfl ?_
    refine gb_iconst (-1) d_X11_image_16 rfl ?_
    obtain ⟨r11, e12, h⟩ := gb_bd_e h
    refine gb_cVi (As := [.int (-1)]) (rest := []) m_X11_154 (t_X11_tell (Γ := Γ) hS e12) (hS 77 _ rfl) rfl (Nat.le_of_ble_eq_true rfl) rfl rfl (Nat.le_of_ble_eq_true rfl) d_X11_image_17 ?_
    cases h
    exact gb_iret d_X11_image_20 rfl ⟨rfl, rfl, rfl⟩
-- X11_back
noncomputable def f_X11_back_39 (sh : List gb_Sh) : Nat → gb_G → Int32 → Int32 → Option (gb_G × Int32)
  | 0, _, _, _ => none
  | n + 1, g, y1, y2 => if 5520 ≤ y2 then (gb_bd (f_X11_settled sh g 0) (fun r5 => some (r5.1, r5.2))) else (gb_ck ((5520 * y1) + y2) 11040 (gb_ck y2 5520 (gb_let (gb_pi g 79 y2.toNatClampNeg (g.1 80 (((5520 * y1) + y2).toNatClampNeg))) (fun g9 => f_X11_back_39 sh n g9 y1 (y2 + 1)))))
noncomputable def f_X11_back (sh : List gb_Sh) (g : gb_G) (x1 : Int32) : Option (gb_G × Int32) := gb_let (gb_pi g 77 0 0) (fun g1 => gb_bd (f_X11_in sh g1 x1.toInt64 0 1) (fun r2 => if r2.2 = 0 then (gb_bd (f_X11_tell sh r2.1 (-1)) (fun r12 => some (r12.1, r12.2))) else (gb_ck x1 2 (if (r2.1.1 81 x1.toNatClampNeg) = 0 then (gb_bd (f_X11_tell sh r2.1 (-2)) (fun r10 => some (r10.1, r10.2))) else (f_X11_back_39 sh gb_N r2.1 x1 0)))))
set_option maxRecDepth 100000 in
set_option maxHeartbeats 4000000 in
theorem t_X11_back_39 {Γ : gb_X} {sh : List gb_Sh} {out : gb_G × Int32} (hS : gb_S sh) : ∀ (n : Nat) (g : gb_G) (y1 : Int32) (y2 : Int32), f_X11_back_39 sh n g y1 y2 = some out → gb_J Γ M_X11_back 2 (gb_Ri sh out) 0 0 sh g 39 [(0, .ref 77), (1, .int y1), (2, .int y2)] [] := by
  intro n
  induction n with
  | zero => intro g y1 y2 h; cases h
  | succ n ih =>
    intro g y1 y2 h
    rw [f_X11_back_39] at h
    refine gb_iload_n d_X11_back_39 rfl ?_
    refine gb_sipush 5520 d_X11_back_40 rfl ?_
    refine gb_icmp_ge 70 d_X11_back_43 (by decide) (fun hc => ?_) (fun hc => ?_)
    · have h := gb_it hc h
      refine gb_aload_n d_X11_back_70 rfl ?_
      refine gb_iconst 0 d_X11_back_71 rfl ?_
      obtain ⟨r5, e6, h⟩ := gb_bd_e h
      refine gb_cVi (As := [.int 0]) (rest := []) m_X11_169 (t_X11_settled (Γ := Γ) hS e6) (hS 77 _ rfl) rfl (Nat.le_of_ble_eq_true rfl) rfl rfl (Nat.le_of_ble_eq_true rfl) d_X11_back_72 ?_
      cases h
      exact gb_iret d_X11_back_75 rfl ⟨rfl, rfl, rfl⟩
    · have h := gb_if hc h
      refine gb_aload_n d_X11_back_46 rfl ?_
      refine gb_getr (r := 79) f_X11_13 (hS 77 _ rfl) rfl d_X11_back_47 ?_
      refine gb_iload_n d_X11_back_50 rfl ?_
      refine gb_aload_n d_X11_back_51 rfl ?_
      refine gb_getr (r := 80) f_X11_16 (hS 77 _ rfl) rfl d_X11_back_52 ?_
      refine gb_sipush 5520 d_X11_back_55 rfl ?_
      refine gb_iload_n d_X11_back_58 rfl ?_
      refine gb_imul d_X11_back_59 ?_
      refine gb_iload_n d_X11_back_60 rfl ?_
      refine gb_iadd d_X11_back_61 ?_
      obtain ⟨hi7, h⟩ := gb_ck_e h
      refine gb_iald_ (((5520 * y1) + y2).toNatClampNeg) rfl (hS 80 _ rfl) hi7 d_X11_back_62 ?_
      obtain ⟨hi8, h⟩ := gb_ck_e h
      refine gb_iast_ y2.toNatClampNeg rfl (hS 79 _ rfl) hi8 d_X11_back_63 ?_
      have h := gb_let_e h
      generalize gb_pi g 79 y2.toNatClampNeg (g.1 80 (((5520 * y1) + y2).toNatClampNeg)) = g9 at h ⊢
      refine gb_iinc (y2 + 1) [(2, .int (y2 + 1)), (0, .ref 77), (1, .int y1)] d_X11_back_64 (Nat.le_of_ble_eq_true rfl) rfl rfl rfl ?_
      refine gb_goto 39 d_X11_back_67 (by decide) ?_
      refine gb_pick (lv' := [(0, .ref 77), (1, .int y1), (2, .int (y2 + 1))]) [1, 2, 0] rfl ?_
      exact ih _ y1 (y2 + 1) h
set_option maxRecDepth 100000 in
set_option maxHeartbeats 4000000 in
theorem t_X11_back {Γ : gb_X} {sh : List gb_Sh} {x1 : Int32} {out : gb_G × Int32} (hS : gb_S sh) {g : gb_G} (h : f_X11_back sh g x1 = some out) : gb_C Γ M_X11_back 2 0 0 sh g [.ref 77, .int x1] (gb_Ri sh out) := by
  refine gb_C.of rfl (Nat.le_of_ble_eq_true rfl) ?_
  refine gb_pick (lv' := [(0, .ref 77), (1, .int x1)]) [0, 1] rfl ?_
  unfold f_X11_back at h
  refine gb_aload_n d_X11_back_0 rfl ?_
  refine gb_iconst 0 d_X11_back_1 rfl ?_
  refine gb_puti f_X11_145 (fun h => nomatch h) (hS 77 _ rfl) rfl rfl rfl d_X11_back_2 ?_
  have h := gb_let_e h
  generalize gb_pi g 77 0 0 = g1 at h ⊢
  refine gb_iload_n d_X11_back_5 rfl ?_
  refine gb_i2l d_X11_back_6 ?_
  refine gb_lconst 0 d_X11_back_7 rfl ?_
  refine gb_lconst 1 d_X11_back_8 rfl ?_
  obtain ⟨r2, e3, h⟩ := gb_bd_e h
  refine gb_cSi (As := [.long x1.toInt64, .long 0, .long 1]) (rest := []) m_X11_165 (t_X11_in (Γ := Γ) hS e3) (Nat.le_of_ble_eq_true rfl) rfl rfl (Nat.le_of_ble_eq_true rfl) d_X11_back_9 ?_
  refine gb_if_ne 21 d_X11_back_12 (by decide) (fun hc => ?_) (fun hc => ?_)
  · have h := gb_if hc h
    refine gb_aload_n d_X11_back_21 rfl ?_
    refine gb_getr (r := 81) f_X11_19 (hS 77 _ rfl) rfl d_X11_back_22 ?_
    refine gb_iload_n d_X11_back_25 rfl ?_
    obtain ⟨hi4, h⟩ := gb_ck_e h
    refine gb_zald_ x1.toNatClampNeg rfl (hS 81 _ rfl) hi4 d_X11_back_26 ?_
    refine gb_if_ne 37 d_X11_back_27 (by decide) (fun hc => ?_) (fun hc => ?_)
    · have h := gb_if hc h
      refine gb_iconst 0 d_X11_back_37 rfl ?_
      refine gb_istore_n [(2, .int 0), (0, .ref 77), (1, .int x1)] d_X11_back_38 (Nat.le_of_ble_eq_true rfl) rfl ?_
      refine gb_pick (lv' := [(0, .ref 77), (1, .int x1), (2, .int 0)]) [1, 2, 0] rfl ?_
      exact t_X11_back_39 hS  gb_N _ x1 0 h
    · have h := gb_it hc h
      refine gb_aload_n d_X11_back_30 rfl ?_
      refine gb_bipush (-2) d_X11_back_31 rfl ?_
      obtain ⟨r10, e11, h⟩ := gb_bd_e h
      refine gb_cVi (As := [.int (-2)]) (rest := []) m_X11_154 (t_X11_tell (Γ := Γ) hS e11) (hS 77 _ rfl) rfl (Nat.le_of_ble_eq_true rfl) rfl rfl (Nat.le_of_ble_eq_true rfl) d_X11_back_33 ?_
      cases h
      exact gb_iret d_X11_back_36 rfl ⟨rfl, rfl, rfl⟩
  · have h := gb_it hc h
    refine gb_aload_n d_X11_back_15 rfl ?_
    refine gb_iconst (-1) d_X11_back_16 rfl ?_
    obtain ⟨r12, e13, h⟩ := gb_bd_e h
    refine gb_cVi (As := [.int (-1)]) (rest := []) m_X11_154 (t_X11_tell (Γ := Γ) hS e13) (hS 77 _ rfl) rfl (Nat.le_of_ble_eq_true rfl) rfl rfl (Nat.le_of_ble_eq_true rfl) d_X11_back_17 ?_
    cases h
    exact gb_iret d_X11_back_20 rfl ⟨rfl, rfl, rfl⟩
-- X11_isGood
noncomputable def f_X11_isGood (sh : List gb_Sh) (g : gb_G) (x1 : Int32) : Option (gb_G × Int32) := gb_bd (f_X11_in sh g x1.toInt64 0 (((g.1 79 0).toInt64) - 1)) (fun r1 => gb_bo r1.2 (some (r1.1, r1.2)))
set_option maxRecDepth 100000 in
set_option maxHeartbeats 4000000 in
theorem t_X11_isGood {Γ : gb_X} {sh : List gb_Sh} {x1 : Int32} {out : gb_G × Int32} (hS : gb_S sh) {g : gb_G} (h : f_X11_isGood sh g x1 = some out) : gb_C Γ M_X11_isGood 1 0 0 sh g [.ref 77, .int x1] (gb_Ri sh out) := by
  refine gb_C.of rfl (Nat.le_of_ble_eq_true rfl) ?_
  refine gb_pick (lv' := [(0, .ref 77), (1, .int x1)]) [0, 1] rfl ?_
  unfold f_X11_isGood at h
  refine gb_iload_n d_X11_isGood_0 rfl ?_
  refine gb_i2l d_X11_isGood_1 ?_
  refine gb_lconst 0 d_X11_isGood_2 rfl ?_
  refine gb_aload_n d_X11_isGood_3 rfl ?_
  refine gb_getr (r := 79) f_X11_13 (hS 77 _ rfl) rfl d_X11_isGood_4 ?_
  refine gb_iconst 0 d_X11_isGood_7 rfl ?_
  refine gb_iald_ 0 rfl (hS 79 _ rfl) (by unfold vp_in; decide) d_X11_isGood_8 ?_
  refine gb_i2l d_X11_isGood_9 ?_
  refine gb_lconst 1 d_X11_isGood_10 rfl ?_
  refine gb_lsub d_X11_isGood_11 ?_
  obtain ⟨r1, e2, h⟩ := gb_bd_e h
  refine gb_cSi (As := [.long x1.toInt64, .long 0, .long (((g.1 79 0).toInt64) - 1)]) (rest := []) m_X11_165 (t_X11_in (Γ := Γ) hS e2) (Nat.le_of_ble_eq_true rfl) rfl rfl (Nat.le_of_ble_eq_true rfl) d_X11_isGood_12 ?_
  obtain ⟨hb3, h⟩ := gb_bo_e h
  cases h
  exact gb_zret d_X11_isGood_15 rfl hb3 ⟨rfl, rfl, rfl⟩
-- X11_isPerson
noncomputable def f_X11_isPerson (sh : List gb_Sh) (g : gb_G) (x1 : Int32) : Option (gb_G × Int32) := gb_bd (f_X11_in sh g x1.toInt64 0 (((g.1 79 1).toInt64) - 1)) (fun r1 => gb_bo r1.2 (some (r1.1, r1.2)))
set_option maxRecDepth 100000 in
set_option maxHeartbeats 4000000 in
theorem t_X11_isPerson {Γ : gb_X} {sh : List gb_Sh} {x1 : Int32} {out : gb_G × Int32} (hS : gb_S sh) {g : gb_G} (h : f_X11_isPerson sh g x1 = some out) : gb_C Γ M_X11_isPerson 1 0 0 sh g [.ref 77, .int x1] (gb_Ri sh out) := by
  refine gb_C.of rfl (Nat.le_of_ble_eq_true rfl) ?_
  refine gb_pick (lv' := [(0, .ref 77), (1, .int x1)]) [0, 1] rfl ?_
  unfold f_X11_isPerson at h
  refine gb_iload_n d_X11_isPerson_0 rfl ?_
  refine gb_i2l d_X11_isPerson_1 ?_
  refine gb_lconst 0 d_X11_isPerson_2 rfl ?_
  refine gb_aload_n d_X11_isPerson_3 rfl ?_
  refine gb_getr (r := 79) f_X11_13 (hS 77 _ rfl) rfl d_X11_isPerson_4 ?_
  refine gb_iconst 1 d_X11_isPerson_7 rfl ?_
  refine gb_iald_ 1 rfl (hS 79 _ rfl) (by unfold vp_in; decide) d_X11_isPerson_8 ?_
  refine gb_i2l d_X11_isPerson_9 ?_
  refine gb_lconst 1 d_X11_isPerson_10 rfl ?_
  refine gb_lsub d_X11_isPerson_11 ?_
  obtain ⟨r1, e2, h⟩ := gb_bd_e h
  refine gb_cSi (As := [.long x1.toInt64, .long 0, .long (((g.1 79 1).toInt64) - 1)]) (rest := []) m_X11_165 (t_X11_in (Γ := Γ) hS e2) (Nat.le_of_ble_eq_true rfl) rfl rfl (Nat.le_of_ble_eq_true rfl) d_X11_isPerson_12 ?_
  obtain ⟨hb3, h⟩ := gb_bo_e h
  cases h
  exact gb_zret d_X11_isPerson_15 rfl hb3 ⟨rfl, rfl, rfl⟩
-- X11_stepsOf
noncomputable def f_X11_stepsOf_26 (sh : List gb_Sh) (g : gb_G) (y3 : Int32) (z0 : Int32) : Option (gb_G × Int32) := if 0 ≤ y3 then (some (g, (z0 + y3))) else (some (g, (z0 + (-y3))))
noncomputable def f_X11_stepsOf (sh : List gb_Sh) (g : gb_G) (x1 : Int32) (x2 : Int32) : Option (gb_G × Int32) := if 0 ≤ ((gb_rem x1 5) - (gb_rem x2 5)) then (f_X11_stepsOf_26 sh g ((x1 / 5) - (x2 / 5)) ((gb_rem x1 5) - (gb_rem x2 5))) else (f_X11_stepsOf_26 sh g ((x1 / 5) - (x2 / 5)) (-((gb_rem x1 5) - (gb_rem x2 5))))
set_option maxRecDepth 100000 in
set_option maxHeartbeats 4000000 in
theorem t_X11_stepsOf_26 {Γ : gb_X} {sh : List gb_Sh} {out : gb_G × Int32} (hS : gb_S sh) : ∀ (g : gb_G) (y3 : Int32) (z0 : Int32), f_X11_stepsOf_26 sh g y3 z0 = some out → gb_J Γ M_X11_stepsOf 0 (gb_Ri sh out) 0 0 sh g 26 [(3, .int y3)] [.int z0] := by
  intro g y3 z0 h
  unfold f_X11_stepsOf_26 at h
  refine gb_iload_n d_X11_stepsOf_26 rfl ?_
  refine gb_if_ge 35 d_X11_stepsOf_27 (by decide) (fun hc => ?_) (fun hc => ?_)
  · have h := gb_it hc h
    refine gb_iload_n d_X11_stepsOf_35 rfl ?_
    refine gb_iadd d_X11_stepsOf_36 ?_
    cases h
    exact gb_iret d_X11_stepsOf_37 rfl ⟨rfl, rfl, rfl⟩
  · have h := gb_if hc h
    refine gb_iload_n d_X11_stepsOf_30 rfl ?_
    refine gb_ineg d_X11_stepsOf_31 ?_
    refine gb_goto 36 d_X11_stepsOf_32 (by decide) ?_
    refine gb_iadd d_X11_stepsOf_36 ?_
    cases h
    exact gb_iret d_X11_stepsOf_37 rfl ⟨rfl, rfl, rfl⟩
set_option maxRecDepth 100000 in
set_option maxHeartbeats 4000000 in
theorem t_X11_stepsOf {Γ : gb_X} {sh : List gb_Sh} {x1 : Int32} {x2 : Int32} {out : gb_G × Int32} (hS : gb_S sh) {g : gb_G} (h : f_X11_stepsOf sh g x1 x2 = some out) : gb_C Γ M_X11_stepsOf 0 0 0 sh g [.int x1, .int x2] (gb_Ri sh out) := by
  refine gb_C.of rfl (Nat.le_of_ble_eq_true rfl) ?_
  refine gb_pick (lv' := [(0, .int x1), (1, .int x2)]) [0, 1] rfl ?_
  unfold f_X11_stepsOf at h
  refine gb_iload_n d_X11_stepsOf_0 rfl ?_
  refine gb_iconst 5 d_X11_stepsOf_1 rfl ?_
  refine gb_rem_ d_X11_stepsOf_2 (by decide) ?_
  refine gb_iload_n d_X11_stepsOf_3 rfl ?_
  refine gb_iconst 5 d_X11_stepsOf_4 rfl ?_
  refine gb_rem_ d_X11_stepsOf_5 (by decide) ?_
  refine gb_isub d_X11_stepsOf_6 ?_
  refine gb_istore_n [(2, .int ((gb_rem x1 5) - (gb_rem x2 5))), (0, .int x1), (1, .int x2)] d_X11_stepsOf_7 (Nat.le_of_ble_eq_true rfl) rfl ?_
  refine gb_iload_n d_X11_stepsOf_8 rfl ?_
  refine gb_iconst 5 d_X11_stepsOf_9 rfl ?_
  refine gb_idiv d_X11_stepsOf_10 (by decide) ?_
  refine gb_iload_n d_X11_stepsOf_11 rfl ?_
  refine gb_iconst 5 d_X11_stepsOf_12 rfl ?_
  refine gb_idiv d_X11_stepsOf_13 (by decide) ?_
  refine gb_isub d_X11_stepsOf_14 ?_
  refine gb_istore_n [(3, .int ((x1 / 5) - (x2 / 5))), (2, .int ((gb_rem x1 5) - (gb_rem x2 5))), (0, .int x1), (1, .int x2)] d_X11_stepsOf_15 (Nat.le_of_ble_eq_true rfl) rfl ?_
  refine gb_iload_n d_X11_stepsOf_16 rfl ?_
  refine gb_if_ge 25 d_X11_stepsOf_17 (by decide) (fun hc => ?_) (fun hc => ?_)
  · have h := gb_it hc h
    refine gb_iload_n d_X11_stepsOf_25 rfl ?_
    refine gb_pick (lv' := [(3, .int ((x1 / 5) - (x2 / 5)))]) [0] rfl ?_
    exact t_X11_stepsOf_26 hS  _ ((x1 / 5) - (x2 / 5)) ((gb_rem x1 5) - (gb_rem x2 5)) h
  · have h := gb_if hc h
    refine gb_iload_n d_X11_stepsOf_20 rfl ?_
    refine gb_ineg d_X11_stepsOf_21 ?_
    refine gb_goto 26 d_X11_stepsOf_22 (by decide) ?_
    refine gb_pick (lv' := [(3, .int ((x1 / 5) - (x2 / 5)))]) [0] rfl ?_
    exact t_X11_stepsOf_26 hS  _ ((x1 / 5) - (x2 / 5)) (-((gb_rem x1 5) - (gb_rem x2 5))) h
-- X11_lackingOnes
noncomputable def f_X11_lackingOnes_4 (sh : List gb_Sh) : Nat → gb_G → Int32 → Int32 → Option (gb_G × Int32)
  | 0, _, _, _ => none
  | n + 1, g, y1, y2 => if (g.1 79 0) ≤ y2 then (some (g, y1)) else (gb_ck (16 + y2) 5520 (f_X11_lackingOnes_4 sh n g (y1 + (g.1 79 ((16 + y2).toNatClampNeg))) (y2 + 1)))
noncomputable def f_X11_lackingOnes (sh : List gb_Sh) (g : gb_G) : Option (gb_G × Int32) := f_X11_lackingOnes_4 sh gb_N g 0 0
set_option maxRecDepth 100000 in
set_option maxHeartbeats 4000000 in
theorem t_X11_lackingOnes_4 {Γ : gb_X} {sh : List gb_Sh} {out : gb_G × Int32} (hS : gb_S sh) : ∀ (n : Nat) (g : gb_G) (y1 : Int32) (y2 : Int32), f_X11_lackingOnes_4 sh n g y1 y2 = some out → gb_J Γ M_X11_lackingOnes 0 (gb_Ri sh out) 0 0 sh g 4 [(0, .ref 77), (1, .int y1), (2, .int y2)] [] := by
  intro n
  induction n with
  | zero => intro g y1 y2 h; cases h
  | succ n ih =>
    intro g y1 y2 h
    rw [f_X11_lackingOnes_4] at h
    refine gb_iload_n d_X11_lackingOnes_4 rfl ?_
    refine gb_aload_n d_X11_lackingOnes_5 rfl ?_
    refine gb_getr (r := 79) f_X11_13 (hS 77 _ rfl) rfl d_X11_lackingOnes_6 ?_
    refine gb_iconst 0 d_X11_lackingOnes_9 rfl ?_
    refine gb_iald_ 0 rfl (hS 79 _ rfl) (by unfold vp_in; decide) d_X11_lackingOnes_10 ?_
    refine gb_icmp_ge 32 d_X11_lackingOnes_11 (by decide) (fun hc => ?_) (fun hc => ?_)
    · have h := gb_it hc h
      refine gb_iload_n d_X11_lackingOnes_32 rfl ?_
      cases h
      exact gb_iret d_X11_lackingOnes_33 rfl ⟨rfl, rfl, rfl⟩
    · have h := gb_if hc h
      refine gb_iload_n d_X11_lackingOnes_14 rfl ?_
      refine gb_aload_n d_X11_lackingOnes_15 rfl ?_
      refine gb_getr (r := 79) f_X11_13 (hS 77 _ rfl) rfl d_X11_lackingOnes_16 ?_
      refine gb_bipush 16 d_X11_lackingOnes_19 rfl ?_
      refine gb_iload_n d_X11_lackingOnes_21 rfl ?_
      refine gb_iadd d_X11_lackingOnes_22 ?_
      obtain ⟨hi1, h⟩ := gb_ck_e h
      refine gb_iald_ ((16 + y2).toNatClampNeg) rfl (hS 79 _ rfl) hi1 d_X11_lackingOnes_23 ?_
      refine gb_iadd d_X11_lackingOnes_24 ?_
      refine gb_istore_n [(1, .int (y1 + (g.1 79 ((16 + y2).toNatClampNeg)))), (0, .ref 77), (2, .int y2)] d_X11_lackingOnes_25 (Nat.le_of_ble_eq_true rfl) rfl ?_
      refine gb_iinc (y2 + 1) [(2, .int (y2 + 1)), (1, .int (y1 + (g.1 79 ((16 + y2).toNatClampNeg)))), (0, .ref 77)] d_X11_lackingOnes_26 (Nat.le_of_ble_eq_true rfl) rfl rfl rfl ?_
      refine gb_goto 4 d_X11_lackingOnes_29 (by decide) ?_
      refine gb_pick (lv' := [(0, .ref 77), (1, .int (y1 + (g.1 79 ((16 + y2).toNatClampNeg)))), (2, .int (y2 + 1))]) [2, 1, 0] rfl ?_
      exact ih _ (y1 + (g.1 79 ((16 + y2).toNatClampNeg))) (y2 + 1) h
set_option maxRecDepth 100000 in
set_option maxHeartbeats 4000000 in
theorem t_X11_lackingOnes {Γ : gb_X} {sh : List gb_Sh} {out : gb_G × Int32} (hS : gb_S sh) {g : gb_G} (h : f_X11_lackingOnes sh g = some out) : gb_C Γ M_X11_lackingOnes 0 0 0 sh g [.ref 77] (gb_Ri sh out) := by
  refine gb_C.of rfl (Nat.le_of_ble_eq_true rfl) ?_
  refine gb_pick (lv' := [(0, .ref 77)]) [0] rfl ?_
  unfold f_X11_lackingOnes at h
  refine gb_iconst 0 d_X11_lackingOnes_0 rfl ?_
  refine gb_istore_n [(1, .int 0), (0, .ref 77)] d_X11_lackingOnes_1 (Nat.le_of_ble_eq_true rfl) rfl ?_
  refine gb_iconst 0 d_X11_lackingOnes_2 rfl ?_
  refine gb_istore_n [(2, .int 0), (1, .int 0), (0, .ref 77)] d_X11_lackingOnes_3 (Nat.le_of_ble_eq_true rfl) rfl ?_
  refine gb_pick (lv' := [(0, .ref 77), (1, .int 0), (2, .int 0)]) [2, 1, 0] rfl ?_
  exact t_X11_lackingOnes_4 hS  gb_N _ 0 0 h
