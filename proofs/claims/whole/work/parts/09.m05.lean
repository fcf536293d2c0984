-- X10_refuse
noncomputable def f_X10_refuse (sh : List gb_Sh) (g : gb_G) (x1 : Int32) : Option (gb_G × Int32) := gb_let (gb_pi g 0 18 x1) (fun g1 => gb_bd (f_X10_within sh g1 (-x1) 0 (7 - 1)) (fun r2 => if r2.2 = 0 then (some (r2.1, x1)) else (gb_ck (-x1) 7 (gb_ck (-x1) 7 (gb_let (gb_pi r2.1 76 ((-x1).toNatClampNeg) ((r2.1.1 76 ((-x1).toNatClampNeg)) + 1)) (fun g6 => some (g6, x1)))))))
set_option maxRecDepth 100000 in
set_option maxHeartbeats 4000000 in
theorem t_X10_refuse {Γ : gb_X} {sh : List gb_Sh} {x1 : Int32} {out : gb_G × Int32} (hS : gb_S sh) {g : gb_G} (h : f_X10_refuse sh g x1 = some out) : gb_C Γ M_X10_refuse 1 0 0 sh g [.ref 0, .int x1] (gb_Ri sh out) := by
  refine gb_C.of rfl (Nat.le_of_ble_eq_true rfl) ?_
  refine gb_pick (lv' := [(0, .ref 0), (1, .int x1)]) [0, 1] rfl ?_
  unfold f_X10_refuse at h
  refine gb_aload_n d_X10_refuse_0 rfl ?_
  refine gb_iload_n d_X10_refuse_1 rfl ?_
  refine gb_puti f_X10_108 (fun h => nomatch h) (hS 0 _ rfl) rfl rfl rfl d_X10_refuse_2 ?_
  have h := gb_let_e h
  generalize gb_pi g 0 18 x1 = g1 at h ⊢
  refine gb_iload_n d_X10_refuse_5 rfl ?_
  refine gb_ineg d_X10_refuse_6 ?_
  refine gb_iconst 0 d_X10_refuse_7 rfl ?_
  refine gb_aload_n d_X10_refuse_8 rfl ?_
  refine gb_getr (r := 76) f_X10_95 (hS 0 _ rfl) rfl d_X10_refuse_9 ?_
  refine gb_alen 7 (by decide) (hS 76 _ rfl) rfl d_X10_refuse_12 ?_
  refine gb_iconst 1 d_X10_refuse_13 rfl ?_
  refine gb_isub d_X10_refuse_14 ?_
  obtain ⟨r2, e3, h⟩ := gb_bd_e h
  refine gb_cSi (As := [.int (-x1), .int 0, .int (7 - 1)]) (rest := []) m_X10_115 (t_X10_within (Γ := Γ) hS e3) (Nat.le_of_ble_eq_true rfl) rfl rfl (Nat.le_of_ble_eq_true rfl) d_X10_refuse_15 ?_
  refine gb_if_eq 32 d_X10_refuse_18 (by decide) (fun hc => ?_) (fun hc => ?_)
  · have h := gb_it hc h
    refine gb_iload_n d_X10_refuse_32 rfl ?_
    cases h
    exact gb_iret d_X10_refuse_33 rfl ⟨rfl, rfl, rfl⟩
  · have h := gb_if hc h
    refine gb_aload_n d_X10_refuse_21 rfl ?_
    refine gb_getr (r := 76) f_X10_95 (hS 0 _ rfl) rfl d_X10_refuse_22 ?_
    refine gb_iload_n d_X10_refuse_25 rfl ?_
    refine gb_ineg d_X10_refuse_26 ?_
    refine gb_dup2 d_X10_refuse_27 rfl rfl ?_
    obtain ⟨hi4, h⟩ := gb_ck_e h
    refine gb_iald_ ((-x1).toNatClampNeg) rfl (hS 76 _ rfl) hi4 d_X10_refuse_28 ?_
    refine gb_iconst 1 d_X10_refuse_29 rfl ?_
    refine gb_iadd d_X10_refuse_30 ?_
    obtain ⟨hi5, h⟩ := gb_ck_e h
    refine gb_iast_ ((-x1).toNatClampNeg) rfl (hS 76 _ rfl) hi5 d_X10_refuse_31 ?_
    have h := gb_let_e h
    generalize gb_pi r2.1 76 ((-x1).toNatClampNeg) ((r2.1.1 76 ((-x1).toNatClampNeg)) + 1) = g6 at h ⊢
    refine gb_iload_n d_X10_refuse_32 rfl ?_
    cases h
    exact gb_iret d_X10_refuse_33 rfl ⟨rfl, rfl, rfl⟩
-- X10_good
noncomputable def f_X10_good_22 (sh : List gb_Sh) (g : gb_G)  : Option (gb_G × Int32) := gb_bd (f_X10_refuse sh g (-1)) (fun r3 => some (r3.1, r3.2))
noncomputable def f_X10_good (sh : List gb_Sh) (g : gb_G) (x1 : Int32) (x2 : Int32) (x3 : Int32) (x4 : Int32) (x5 : Int32) : Option (gb_G × Int32) := gb_bd (f_X10_canBeGood sh g x1 x2 x3 x4) (fun r1 => if r1.2 = 0 then (f_X10_good_22 sh r1.1 ) else (gb_bd (f_X10_within sh r1.1 x5 0 24) (fun r5 => if r5.2 = 0 then (f_X10_good_22 sh r5.1 ) else (if (r5.1.1 1 0) < 8 then (gb_bd (f_X3_clear sh r5.1 33) (fun r7 => gb_bd (f_X0_add sh r7 1 x1 x2 x3 x4 x5) (fun r9 => gb_bd (f_X10_grant sh r9.1 r9.2) (fun r11 => some (r11.1, r11.2))))) else (gb_bd (f_X10_refuse sh r5.1 (-5)) (fun r13 => some (r13.1, r13.2)))))))
set_option maxRecDepth 100000 in
set_option maxHeartbeats 4000000 in
theorem t_X10_good_22 {Γ : gb_X} {sh : List gb_Sh} {out : gb_G × Int32} (hS : gb_S sh) : ∀ (g : gb_G) , f_X10_good_22 sh g  = some out → gb_J Γ M_X10_good 4 (gb_Ri sh out) 0 0 sh g 22 [(0, .ref 0)] [] := by
  intro g  h
  unfold f_X10_good_22 at h
  refine gb_aload_n d_X10_good_22 rfl ?_
  refine gb_iconst (-1) d_X10_good_23 rfl ?_
  obtain ⟨r3, e4, h⟩ := gb_bd_e h
  refine gb_cVi (As := [.int (-1)]) (rest := []) m_X10_119 (t_X10_refuse (Γ := Γ) hS e4) (hS 0 _ rfl) rfl (Nat.le_of_ble_eq_true rfl) rfl rfl (Nat.le_of_ble_eq_true rfl) d_X10_good_24 ?_
  cases h
  exact gb_iret d_X10_good_27 rfl ⟨rfl, rfl, rfl⟩
set_option maxRecDepth 100000 in
set_option maxHeartbeats 4000000 in
theorem t_X10_good {Γ : gb_X} {sh : List gb_Sh} {x1 : Int32} {x2 : Int32} {x3 : Int32} {x4 : Int32} {x5 : Int32} {out : gb_G × Int32} (hS : gb_S sh) {g : gb_G} (h : f_X10_good sh g x1 x2 x3 x4 x5 = some out) : gb_C Γ M_X10_good 4 0 0 sh g [.ref 0, .int x1, .int x2, .int x3, .int x4, .int x5] (gb_Ri sh out) := by
  refine gb_C.of rfl (Nat.le_of_ble_eq_true rfl) ?_
  refine gb_pick (lv' := [(0, .ref 0), (1, .int x1), (2, .int x2), (3, .int x3), (4, .int x4), (5, .int x5)]) [0, 1, 2, 3, 4, 5] rfl ?_
  unfold f_X10_good at h
  refine gb_iload_n d_X10_good_0 rfl ?_
  refine gb_iload_n d_X10_good_1 rfl ?_
  refine gb_iload_n d_X10_good_2 rfl ?_
  refine gb_iload d_X10_good_3 rfl ?_
  obtain ⟨r1, e2, h⟩ := gb_bd_e h
  refine gb_cSi (As := [.int x1, .int x2, .int x3, .int x4]) (rest := []) m_X10_111 (t_X10_canBeGood (Γ := Γ) hS e2) (Nat.le_of_ble_eq_true rfl) rfl rfl (Nat.le_of_ble_eq_true rfl) d_X10_good_5 ?_
  refine gb_if_eq 22 d_X10_good_8 (by decide) (fun hc => ?_) (fun hc => ?_)
  · have h := gb_it hc h
    refine gb_pick (lv' := [(0, .ref 0)]) [0] rfl ?_
    exact t_X10_good_22 hS  _  h
  · have h := gb_if hc h
    refine gb_iload d_X10_good_11 rfl ?_
    refine gb_iconst 0 d_X10_good_13 rfl ?_
    refine gb_bipush 24 d_X10_good_14 rfl ?_
    obtain ⟨r5, e6, h⟩ := gb_bd_e h
    refine gb_cSi (As := [.int x5, .int 0, .int 24]) (rest := []) m_X10_115 (t_X10_within (Γ := Γ) hS e6) (Nat.le_of_ble_eq_true rfl) rfl rfl (Nat.le_of_ble_eq_true rfl) d_X10_good_16 ?_
    refine gb_if_ne 28 d_X10_good_19 (by decide) (fun hc => ?_) (fun hc => ?_)
    · have h := gb_if hc h
      refine gb_aload_n d_X10_good_28 rfl ?_
      refine gb_getr (r := 1) f_X10_14 (hS 0 _ rfl) rfl d_X10_good_29 ?_
      refine gb_geti f_X10_123 (ok_X0_1 hS).1 rfl d_X10_good_32 ?_
      refine gb_bipush 8 d_X10_good_35 rfl ?_
      refine gb_icmp_lt 47 d_X10_good_37 (by decide) (fun hc => ?_) (fun hc => ?_)
      · have h := gb_it hc h
        refine gb_aload_n d_X10_good_47 rfl ?_
        refine gb_getr (r := 33) f_X10_35 (hS 0 _ rfl) rfl d_X10_good_48 ?_
        obtain ⟨r7, e8, h⟩ := gb_bd_e h
        refine gb_cVv (As := []) (rest := []) m_X10_126 (t_X3_clear (Γ := Γ) hS (ok_X3_33 hS) e8) (ok_X3_33 hS).1 rfl (Nat.le_of_ble_eq_true rfl) rfl rfl (Nat.le_of_ble_eq_true rfl) d_X10_good_51 ?_
        refine gb_aload_n d_X10_good_54 rfl ?_
        refine gb_aload_n d_X10_good_55 rfl ?_
        refine gb_getr (r := 1) f_X10_14 (hS 0 _ rfl) rfl d_X10_good_56 ?_
        refine gb_iload_n d_X10_good_59 rfl ?_
        refine gb_iload_n d_X10_good_60 rfl ?_
        refine gb_iload_n d_X10_good_61 rfl ?_
        refine gb_iload d_X10_good_62 rfl ?_
        refine gb_iload d_X10_good_64 rfl ?_
        obtain ⟨r9, e10, h⟩ := gb_bd_e h
        refine gb_cVi (As := [.int x1, .int x2, .int x3, .int x4, .int x5]) (rest := [.ref 0]) m_X10_129 (t_X0_add (Γ := Γ) hS (ok_X0_1 hS) e10) (ok_X0_1 hS).1 rfl (Nat.le_of_ble_eq_true rfl) rfl rfl (Nat.le_of_ble_eq_true rfl) d_X10_good_66 ?_
        obtain ⟨r11, e12, h⟩ := gb_bd_e h
        refine gb_cVi (As := [.int r9.2]) (rest := []) m_X10_133 (t_X10_grant (Γ := Γ) hS e12) (hS 0 _ rfl) rfl (Nat.le_of_ble_eq_true rfl) rfl rfl (Nat.le_of_ble_eq_true rfl) d_X10_good_69 ?_
        cases h
        exact gb_iret d_X10_good_72 rfl ⟨rfl, rfl, rfl⟩
      · have h := gb_if hc h
        refine gb_aload_n d_X10_good_40 rfl ?_
        refine gb_bipush (-5) d_X10_good_41 rfl ?_
        obtain ⟨r13, e14, h⟩ := gb_bd_e h
        refine gb_cVi (As := [.int (-5)]) (rest := []) m_X10_119 (t_X10_refuse (Γ := Γ) hS e14) (hS 0 _ rfl) rfl (Nat.le_of_ble_eq_true rfl) rfl rfl (Nat.le_of_ble_eq_true rfl) d_X10_good_43 ?_
        cases h
        exact gb_iret d_X10_good_46 rfl ⟨rfl, rfl, rfl⟩
    · have h := gb_it hc h
      refine gb_pick (lv' := [(0, .ref 0)]) [0] rfl ?_
      exact t_X10_good_22 hS  _  h
-- X10_of
noncomputable def f_X10_of (sh : List gb_Sh) (g : gb_G) (x1 : Int32) (x2 : Int32) : Option (gb_G × Int32) := gb_bd (f_X0_read sh g 1 x1 x2) (fun r1 => some (r1.1, r1.2))
set_option maxRecDepth 100000 in
set_option maxHeartbeats 4000000 in
theorem t_X10_of {Γ : gb_X} {sh : List gb_Sh} {x1 : Int32} {x2 : Int32} {out : gb_G × Int32} (hS : gb_S sh) {g : gb_G} (h : f_X10_of sh g x1 x2 = some out) : gb_C Γ M_X10_of 1 0 0 sh g [.ref 0, .int x1, .int x2] (gb_Ri sh out) := by
  refine gb_C.of rfl (Nat.le_of_ble_eq_true rfl) ?_
  refine gb_pick (lv' := [(0, .ref 0), (1, .int x1), (2, .int x2)]) [0, 1, 2] rfl ?_
  unfold f_X10_of at h
  refine gb_aload_n d_X10_of_0 rfl ?_
  refine gb_getr (r := 1) f_X10_14 (hS 0 _ rfl) rfl d_X10_of_1 ?_
  refine gb_iload_n d_X10_of_4 rfl ?_
  refine gb_iload_n d_X10_of_5 rfl ?_
  obtain ⟨r1, e2, h⟩ := gb_bd_e h
  refine gb_cVi (As := [.int x1, .int x2]) (rest := []) m_X10_136 (t_X0_read (Γ := Γ) hS (ok_X0_1 hS) e2) (ok_X0_1 hS).1 rfl (Nat.le_of_ble_eq_true rfl) rfl rfl (Nat.le_of_ble_eq_true rfl) d_X10_of_6 ?_
  cases h
  exact gb_iret d_X10_of_9 rfl ⟨rfl, rfl, rfl⟩
-- X10_asks
noncomputable def f_X10_asks_20 (sh : List gb_Sh) (g : gb_G)  : Option (gb_G × Int32) := some (g, (-100000))
noncomputable def f_X10_asks (sh : List gb_Sh) (g : gb_G) (x1 : Int32) (x2 : Int32) : Option (gb_G × Int32) := gb_bd (f_X0_has sh g 1 x1) (fun r1 => if r1.2 = 0 then (f_X10_asks_20 sh r1.1 ) else (gb_bd (f_X10_within sh r1.1 x2 0 3) (fun r3 => if r3.2 = 0 then (f_X10_asks_20 sh r3.1 ) else (gb_bd (f_X0_lawInForce sh r3.1 1) (fun r5 => gb_bd (f_X4_tell sh r5.1 1 r5.2 x1 x2) (fun r7 => some (r7.1, r7.2)))))))
set_option maxRecDepth 100000 in
set_option maxHeartbeats 4000000 in
theorem t_X10_asks_20 {Γ : gb_X} {sh : List gb_Sh} {out : gb_G × Int32} (hS : gb_S sh) : ∀ (g : gb_G) , f_X10_asks_20 sh g  = some out → gb_J Γ M_X10_asks 3 (gb_Ri sh out) 0 0 sh g 20 [] [] := by
  intro g  h
  unfold f_X10_asks_20 at h
  refine gb_ldc (-100000) k_X10_144 d_X10_asks_20 ?_
  cases h
  exact gb_iret d_X10_asks_22 rfl ⟨rfl, rfl, rfl⟩
set_option maxRecDepth 100000 in
set_option maxHeartbeats 4000000 in
theorem t_X10_asks {Γ : gb_X} {sh : List gb_Sh} {x1 : Int32} {x2 : Int32} {out : gb_G × Int32} (hS : gb_S sh) {g : gb_G} (h : f_X10_asks sh g x1 x2 = some out) : gb_C Γ M_X10_asks 3 0 0 sh g [.ref 0, .int x1, .int x2] (gb_Ri sh out) := by
  refine gb_C.of rfl (Nat.le_of_ble_eq_true rfl) ?_
  refine gb_pick (lv' := [(0, .ref 0), (1, .int x1), (2, .int x2)]) [0, 1, 2] rfl ?_
  unfold f_X10_asks at h
  refine gb_aload_n d_X10_asks_0 rfl ?_
  refine gb_getr (r := 1) f_X10_14 (hS 0 _ rfl) rfl d_X10_asks_1 ?_
  refine gb_iload_n d_X10_asks_4 rfl ?_
  obtain ⟨r1, e2, h⟩ := gb_bd_e h
  refine gb_cVi (As := [.int x1]) (rest := []) m_X10_140 (t_X0_has (Γ := Γ) hS (ok_X0_1 hS) e2) (ok_X0_1 hS).1 rfl (Nat.le_of_ble_eq_true rfl) rfl rfl (Nat.le_of_ble_eq_true rfl) d_X10_asks_5 ?_
  refine gb_if_eq 20 d_X10_asks_8 (by decide) (fun hc => ?_) (fun hc => ?_)
  · have h := gb_it hc h
    refine gb_pick (lv' := []) [] rfl ?_
    exact t_X10_asks_20 hS  _  h
  · have h := gb_if hc h
    refine gb_iload_n d_X10_asks_11 rfl ?_
    refine gb_iconst 0 d_X10_asks_12 rfl ?_
    refine gb_iconst 3 d_X10_asks_13 rfl ?_
    obtain ⟨r3, e4, h⟩ := gb_bd_e h
    refine gb_cSi (As := [.int x2, .int 0, .int 3]) (rest := []) m_X10_115 (t_X10_within (Γ := Γ) hS e4) (Nat.le_of_ble_eq_true rfl) rfl rfl (Nat.le_of_ble_eq_true rfl) d_X10_asks_14 ?_
    refine gb_if_ne 23 d_X10_asks_17 (by decide) (fun hc => ?_) (fun hc => ?_)
    · have h := gb_if hc h
      refine gb_aload_n d_X10_asks_23 rfl ?_
      refine gb_getr (r := 54) f_X10_70 (hS 0 _ rfl) rfl d_X10_asks_24 ?_
      refine gb_aload_n d_X10_asks_27 rfl ?_
      refine gb_getr (r := 1) f_X10_14 (hS 0 _ rfl) rfl d_X10_asks_28 ?_
      refine gb_aload_n d_X10_asks_31 rfl ?_
      refine gb_getr (r := 1) f_X10_14 (hS 0 _ rfl) rfl d_X10_asks_32 ?_
      obtain ⟨r5, e6, h⟩ := gb_bd_e h
      refine gb_cVq (As := []) (rest := [.ref 1, .ref 54]) m_X10_145 (t_X0_lawInForce (Γ := Γ) hS (ok_X0_1 hS) e6) (ok_X0_1 hS).1 rfl (Nat.le_of_ble_eq_true rfl) rfl rfl (Nat.le_of_ble_eq_true rfl) d_X10_asks_35 ?_
      refine gb_iload_n d_X10_asks_38 rfl ?_
      refine gb_iload_n d_X10_asks_39 rfl ?_
      obtain ⟨r7, e8, h⟩ := gb_bd_e h
      refine gb_cVi (As := [.ref 1, va_rf r5.2, .int x1, .int x2]) (rest := []) m_X10_149 (t_X4_tell (Γ := Γ) hS (ok_X0_1 hS) e8) (hS 54 _ rfl) rfl (Nat.le_of_ble_eq_true rfl) rfl rfl (Nat.le_of_ble_eq_true rfl) d_X10_asks_40 ?_
      cases h
      exact gb_iret d_X10_asks_43 rfl ⟨rfl, rfl, rfl⟩
    · have h := gb_it hc h
      refine gb_pick (lv' := []) [] rfl ?_
      exact t_X10_asks_20 hS  _  h
-- X10_stand
noncomputable def f_X10_stand_27 (sh : List gb_Sh) (g : gb_G) (y1 : Int32) (y2 : Int32) : Option (gb_G × Int32) := gb_bd (f_X0_has sh g 1 y1) (fun r1 => if r1.2 = 0 then (gb_bd (f_X10_refuse sh r1.1 (-2)) (fun r9 => some (r9.1, r9.2))) else (gb_bd (f_X0_write sh r1.1 1 y1 6 y2) (fun r3 => gb_bd (f_X3_clear sh r3 33) (fun r5 => gb_bd (f_X10_grant sh r5 0) (fun r7 => some (r7.1, r7.2))))))
noncomputable def f_X10_stand_21 (sh : List gb_Sh) (g : gb_G)  : Option (gb_G × Int32) := gb_bd (f_X10_refuse sh g (-1)) (fun r11 => some (r11.1, r11.2))
noncomputable def f_X10_stand (sh : List gb_Sh) (g : gb_G) (x1 : Int32) (x2 : Int32) : Option (gb_G × Int32) := if x2 = (-1) then (f_X10_stand_27 sh g x1 x2) else (if x2 = x1 then (f_X10_stand_21 sh g ) else (gb_bd (f_X0_has sh g 1 x2) (fun r13 => if r13.2 = 0 then (f_X10_stand_21 sh r13.1 ) else (f_X10_stand_27 sh r13.1 x1 x2))))
set_option maxRecDepth 100000 in
set_option maxHeartbeats 4000000 in
theorem t_X10_stand_27 {Γ : gb_X} {sh : List gb_Sh} {out : gb_G × Int32} (hS : gb_S sh) : ∀ (g : gb_G) (y1 : Int32) (y2 : Int32), f_X10_stand_27 sh g y1 y2 = some out → gb_J Γ M_X10_stand 3 (gb_Ri sh out) 0 0 sh g 27 [(0, .ref 0), (1, .int y1), (2, .int y2)] [] := by
  intro g y1 y2 h
  unfold f_X10_stand_27 at h
  refine gb_aload_n d_X10_stand_27 rfl ?_
  refine gb_getr (r := 1) f_X10_14 (hS 0 _ rfl) rfl d_X10_stand_28 ?_
  refine gb_iload_n d_X10_stand_31 rfl ?_
  obtain ⟨r1, e2, h⟩ := gb_bd_e h
  refine gb_cVi (As := [.int y1]) (rest := []) m_X10_140 (t_X0_has (Γ := Γ) hS (ok_X0_1 hS) e2) (ok_X0_1 hS).1 rfl (Nat.le_of_ble_eq_true rfl) rfl rfl (Nat.le_of_ble_eq_true rfl) d_X10_stand_32 ?_
  refine gb_if_ne 45 d_X10_stand_35 (by decide) (fun hc => ?_) (fun hc => ?_)
  · have h := gb_if hc h
    refine gb_aload_n d_X10_stand_45 rfl ?_
    refine gb_getr (r := 1) f_X10_14 (hS 0 _ rfl) rfl d_X10_stand_46 ?_
    refine gb_iload_n d_X10_stand_49 rfl ?_
    refine gb_bipush 6 d_X10_stand_50 rfl ?_
    refine gb_iload_n d_X10_stand_52 rfl ?_
    obtain ⟨r3, e4, h⟩ := gb_bd_e h
    refine gb_cVv (As := [.int y1, .int 6, .int y2]) (rest := []) m_X10_153 (t_X0_write (Γ := Γ) hS (ok_X0_1 hS) e4) (ok_X0_1 hS).1 rfl (Nat.le_of_ble_eq_true rfl) rfl rfl (Nat.le_of_ble_eq_true rfl) d_X10_stand_53 ?_
    refine gb_aload_n d_X10_stand_56 rfl ?_
    refine gb_getr (r := 33) f_X10_35 (hS 0 _ rfl) rfl d_X10_stand_57 ?_
    obtain ⟨r5, e6, h⟩ := gb_bd_e h
    refine gb_cVv (As := []) (rest := []) m_X10_126 (t_X3_clear (Γ := Γ) hS (ok_X3_33 hS) e6) (ok_X3_33 hS).1 rfl (Nat.le_of_ble_eq_true rfl) rfl rfl (Nat.le_of_ble_eq_true rfl) d_X10_stand_60 ?_
    refine gb_aload_n d_X10_stand_63 rfl ?_
    refine gb_iconst 0 d_X10_stand_64 rfl ?_
    obtain ⟨r7, e8, h⟩ := gb_bd_e h
    refine gb_cVi (As := [.int 0]) (rest := []) m_X10_133 (t_X10_grant (Γ := Γ) hS e8) (hS 0 _ rfl) rfl (Nat.le_of_ble_eq_true rfl) rfl rfl (Nat.le_of_ble_eq_true rfl) d_X10_stand_65 ?_
    cases h
    exact gb_iret d_X10_stand_68 rfl ⟨rfl, rfl, rfl⟩
  · have h := gb_it hc h
    refine gb_aload_n d_X10_stand_38 rfl ?_
    refine gb_bipush (-2) d_X10_stand_39 rfl ?_
    obtain ⟨r9, e10, h⟩ := gb_bd_e h
    refine gb_cVi (As := [.int (-2)]) (rest := []) m_X10_119 (t_X10_refuse (Γ := Γ) hS e10) (hS 0 _ rfl) rfl (Nat.le_of_ble_eq_true rfl) rfl rfl (Nat.le_of_ble_eq_true rfl) d_X10_stand_41 ?_
    cases h
    exact gb_iret d_X10_stand_44 rfl ⟨rfl, rfl, rfl⟩
set_option maxRecDepth 100000 in
set_option maxHeartbeats 4000000 in
theorem t_X10_stand_21 {Γ : gb_X} {sh : List gb_Sh} {out : gb_G × Int32} (hS : gb_S sh) : ∀ (g : gb_G) , f_X10_stand_21 sh g  = some out → gb_J Γ M_X10_stand 3 (gb_Ri sh out) 0 0 sh g 21 [(0, .ref 0)] [] := by
  intro g  h
  unfold f_X10_stand_21 at h
  refine gb_aload_n d_X10_stand_21 rfl ?_
  refine gb_iconst (-1) d_X10_stand_22 rfl ?_
  obtain ⟨r11, e12, h⟩ := gb_bd_e h
  refine gb_cVi (As := [.int (-1)]) (rest := []) m_X10_119 (t_X10_refuse (Γ := Γ) hS e12) (hS 0 _ rfl) rfl (Nat.le_of_ble_eq_true rfl) rfl rfl (Nat.le_of_ble_eq_true rfl) d_X10_stand_23 ?_
  cases h
  exact gb_iret d_X10_stand_26 rfl ⟨rfl, rfl, rfl⟩
set_option maxRecDepth 100000 in
set_option maxHeartbeats 4000000 in
theorem t_X10_stand {Γ : gb_X} {sh : List gb_Sh} {x1 : Int32} {x2 : Int32} {out : gb_G × Int32} (hS : gb_S sh) {g : gb_G} (h : f_X10_stand sh g x1 x2 = some out) : gb_C Γ M_X10_stand 3 0 0 sh g [.ref 0, .int x1, .int x2] (gb_Ri sh out) := by
  refine gb_C.of rfl (Nat.le_of_ble_eq_true rfl) ?_
  refine gb_pick (lv' := [(0, .ref 0), (1, .int x1), (2, .int x2)]) [0, 1, 2] rfl ?_
  unfold f_X10_stand at h
  refine gb_iload_n d_X10_stand_0 rfl ?_
  refine gb_iconst (-1) d_X10_stand_1 rfl ?_
  refine gb_icmp_eq 27 d_X10_stand_2 (by decide) (fun hc => ?_) (fun hc => ?_)
  · have h := gb_it hc h
    exact t_X10_stand_27 hS  _ x1 x2 h
  · have h := gb_if hc h
    refine gb_iload_n d_X10_stand_5 rfl ?_
    refine gb_iload_n d_X10_stand_6 rfl ?_
    refine gb_icmp_eq 21 d_X10_stand_7 (by decide) (fun hc => ?_) (fun hc => ?_)
    · have h := gb_it hc h
      refine gb_pick (lv' := [(0, .ref 0)]) [0] rfl ?_
      exact t_X10_stand_21 hS  _  h
    · have h := gb_if hc h
      refine gb_aload_n d_X10_stand_10 rfl ?_
      refine gb_getr (r := 1) f_X10_14 (hS 0 _ rfl) rfl d_X10_stand_11 ?_
      refine gb_iload_n d_X10_stand_14 rfl ?_
      obtain ⟨r13, e14, h⟩ := gb_bd_e h
      refine gb_cVi (As := [.int x2]) (rest := []) m_X10_140 (t_X0_has (Γ := Γ) hS (ok_X0_1 hS) e14) (ok_X0_1 hS).1 rfl (Nat.le_of_ble_eq_true rfl) rfl rfl (Nat.le_of_ble_eq_true rfl) d_X10_stand_15 ?_
      refine gb_if_ne 27 d_X10_stand_18 (by decide) (fun hc => ?_) (fun hc => ?_)
      · have h := gb_if hc h
        exact t_X10_stand_27 hS  _ x1 x2 h
      · have h := gb_it hc h
        refine gb_pick (lv' := [(0, .ref 0)]) [0] rfl ?_
        exact t_X10_stand_21 hS  _  h
-- X10_person
noncomputable def f_X10_person (sh : List gb_Sh) (g : gb_G) : Option (gb_G × Int32) := if (g.1 1 2) < 5 then (gb_let (gb_pi g 1 2 ((g.1 1 2) + 1)) (fun g1 => gb_bd (f_X10_grant sh g1 ((g1.1 1 2) - 1)) (fun r2 => some (r2.1, r2.2)))) else (gb_bd (f_X10_refuse sh g (-5)) (fun r4 => some (r4.1, r4.2)))
set_option maxRecDepth 100000 in
set_option maxHeartbeats 4000000 in
theorem t_X10_person {Γ : gb_X} {sh : List gb_Sh} {out : gb_G × Int32} (hS : gb_S sh) {g : gb_G} (h : f_X10_person sh g = some out) : gb_C Γ M_X10_person 2 0 0 sh g [.ref 0] (gb_Ri sh out) := by
  refine gb_C.of rfl (Nat.le_of_ble_eq_true rfl) ?_
  refine gb_pick (lv' := [(0, .ref 0)]) [0] rfl ?_
  unfold f_X10_person at h
  refine gb_aload_n d_X10_person_0 rfl ?_
  refine gb_getr (r := 1) f_X10_14 (hS 0 _ rfl) rfl d_X10_person_1 ?_
  refine gb_geti f_X10_157 (ok_X0_1 hS).1 rfl d_X10_person_4 ?_
  refine gb_iconst 5 d_X10_person_7 rfl ?_
  refine gb_icmp_lt 18 d_X10_person_8 (by decide) (fun hc => ?_) (fun hc => ?_)
  · have h := gb_it hc h
    refine gb_aload_n d_X10_person_18 rfl ?_
    refine gb_getr (r := 1) f_X10_14 (hS 0 _ rfl) rfl d_X10_person_19 ?_
    refine gb_dup d_X10_person_22 rfl ?_
    refine gb_geti f_X10_157 (ok_X0_1 hS).1 rfl d_X10_person_23 ?_
    refine gb_iconst 1 d_X10_person_26 rfl ?_
    refine gb_iadd d_X10_person_27 ?_
    refine gb_puti f_X10_157 (fun h => nomatch h) (ok_X0_1 hS).1 rfl rfl rfl d_X10_person_28 ?_
    have h := gb_let_e h
    generalize gb_pi g 1 2 ((g.1 1 2) + 1) = g1 at h ⊢
    refine gb_aload_n d_X10_person_31 rfl ?_
    refine gb_aload_n d_X10_person_32 rfl ?_
    refine gb_getr (r := 1) f_X10_14 (hS 0 _ rfl) rfl d_X10_person_33 ?_
    refine gb_geti f_X10_157 (ok_X0_1 hS).1 rfl d_X10_person_36 ?_
    refine gb_iconst 1 d_X10_person_39 rfl ?_
    refine gb_isub d_X10_person_40 ?_
    obtain ⟨r2, e3, h⟩ := gb_bd_e h
    refine gb_cVi (As := [.int ((g1.1 1 2) - 1)]) (rest := []) m_X10_133 (t_X10_grant (Γ := Γ) hS e3) (hS 0 _ rfl) rfl (Nat.le_of_ble_eq_true rfl) rfl rfl (Nat.le_of_ble_eq_true rfl) d_X10_person_41 ?_
    cases h
    exact gb_iret d_X10_person_44 rfl ⟨rfl, rfl, rfl⟩
  · have h := gb_if hc h
    refine gb_aload_n d_X10_person_11 rfl ?_
    refine gb_bipush (-5) d_X10_person_12 rfl ?_
    obtain ⟨r4, e5, h⟩ := gb_bd_e h
    refine gb_cVi (As := [.int (-5)]) (rest := []) m_X10_119 (t_X10_refuse (Γ := Γ) hS e5) (hS 0 _ rfl) rfl (Nat.le_of_ble_eq_true rfl) rfl rfl (Nat.le_of_ble_eq_true rfl) d_X10_person_14 ?_
    cases h
    exact gb_iret d_X10_person_17 rfl ⟨rfl, rfl, rfl⟩
-- X10_own
noncomputable def f_X10_own_44 (sh : List gb_Sh) (g : gb_G)  : Option (gb_G × Int32) := gb_bd (f_X10_refuse sh g (-2)) (fun r5 => some (r5.1, r5.2))
noncomputable def f_X10_own (sh : List gb_Sh) (g : gb_G) (x1 : Int32) (x2 : Int32) (x3 : Int32) : Option (gb_G × Int32) := gb_bd (f_X10_within sh g x3 0 9) (fun r1 => if r1.2 = 0 then (gb_bd (f_X10_refuse sh r1.1 (-1)) (fun r15 => some (r15.1, r15.2))) else (gb_bd (f_X10_within sh r1.1 x1 0 ((r1.1.1 1 2) - 1)) (fun r3 => if r3.2 = 0 then (f_X10_own_44 sh r3.1 ) else (gb_bd (f_X0_has sh r3.1 1 x2) (fun r7 => if r7.2 = 0 then (f_X10_own_44 sh r7.1 ) else (gb_bd (f_X0_ownWeight sh r7.1 1 x1 x2) (fun r9 => gb_ck ((x1 * 8) + x2) 40 (gb_let (gb_pi r9.1 (1 + 2) (((x1 * 8) + x2).toNatClampNeg) x3) (fun g12 => gb_bd (f_X10_grant sh g12 r9.2) (fun r13 => some (r13.1, r13.2)))))))))))
set_option maxRecDepth 100000 in
set_option maxHeartbeats 4000000 in
theorem t_X10_own_44 {Γ : gb_X} {sh : List gb_Sh} {out : gb_G × Int32} (hS : gb_S sh) : ∀ (g : gb_G) , f_X10_own_44 sh g  = some out → gb_J Γ M_X10_own 2 (gb_Ri sh out) 0 0 sh g 44 [(0, .ref 0)] [] := by
  intro g  h
  unfold f_X10_own_44 at h
  refine gb_aload_n d_X10_own_44 rfl ?_
  refine gb_bipush (-2) d_X10_own_45 rfl ?_
  obtain ⟨r5, e6, h⟩ := gb_bd_e h
  refine gb_cVi (As := [.int (-2)]) (rest := []) m_X10_119 (t_X10_refuse (Γ := Γ) hS e6) (hS 0 _ rfl) rfl (Nat.le_of_ble_eq_true rfl) rfl rfl (Nat.le_of_ble_eq_true rfl) d_X10_own_47 ?_
  cases h
  exact gb_iret d_X10_own_50 rfl ⟨rfl, rfl, rfl⟩
set_option maxRecDepth 100000 in
set_option maxHeartbeats 4000000 in
theorem t_X10_own {Γ : gb_X} {sh : List gb_Sh} {x1 : Int32} {x2 : Int32} {x3 : Int32} {out : gb_G × Int32} (hS : gb_S sh) {g : gb_G} (h : f_X10_own sh g x1 x2 x3 = some out) : gb_C Γ M_X10_own 2 0 0 sh g [.ref 0, .int x1, .int x2, .int x3] (gb_Ri sh out) := by
  refine gb_C.of rfl (Nat.le_of_ble_eq_true rfl) ?_
  refine gb_pick (lv' := [(0, .ref 0), (1, .int x1), (2, .int x2), (3, .int x3)]) [0, 1, 2, 3] rfl ?_
  unfold f_X10_own at h
  refine gb_iload_n d_X10_own_0 rfl ?_
  refine gb_iconst 0 d_X10_own_1 rfl ?_
  refine gb_bipush 9 d_X10_own_2 rfl ?_
  obtain ⟨r1, e2, h⟩ := gb_bd_e h
  refine gb_cSi (As := [.int x3, .int 0, .int 9]) (rest := []) m_X10_115 (t_X10_within (Γ := Γ) hS e2) (Nat.le_of_ble_eq_true rfl) rfl rfl (Nat.le_of_ble_eq_true rfl) d_X10_own_4 ?_
  refine gb_if_ne 16 d_X10_own_7 (by decide) (fun hc => ?_) (fun hc => ?_)
  · have h := gb_if hc h
    refine gb_iload_n d_X10_own_16 rfl ?_
    refine gb_iconst 0 d_X10_own_17 rfl ?_
    refine gb_aload_n d_X10_own_18 rfl ?_
    refine gb_getr (r := 1) f_X10_14 (hS 0 _ rfl) rfl d_X10_own_19 ?_
    refine gb_geti f_X10_157 (ok_X0_1 hS).1 rfl d_X10_own_22 ?_
    refine gb_iconst 1 d_X10_own_25 rfl ?_
    refine gb_isub d_X10_own_26 ?_
    obtain ⟨r3, e4, h⟩ := gb_bd_e h
    refine gb_cSi (As := [.int x1, .int 0, .int ((r1.1.1 1 2) - 1)]) (rest := []) m_X10_115 (t_X10_within (Γ := Γ) hS e4) (Nat.le_of_ble_eq_true rfl) rfl rfl (Nat.le_of_ble_eq_true rfl) d_X10_own_27 ?_
    refine gb_if_eq 44 d_X10_own_30 (by decide) (fun hc => ?_) (fun hc => ?_)
    · have h := gb_it hc h
      refine gb_pick (lv' := [(0, .ref 0)]) [0] rfl ?_
      exact t_X10_own_44 hS  _  h
    · have h := gb_if hc h
      refine gb_aload_n d_X10_own_33 rfl ?_
      refine gb_getr (r := 1) f_X10_14 (hS 0 _ rfl) rfl d_X10_own_34 ?_
      refine gb_iload_n d_X10_own_37 rfl ?_
      obtain ⟨r7, e8, h⟩ := gb_bd_e h
      refine gb_cVi (As := [.int x2]) (rest := []) m_X10_140 (t_X0_has (Γ := Γ) hS (ok_X0_1 hS) e8) (ok_X0_1 hS).1 rfl (Nat.le_of_ble_eq_true rfl) rfl rfl (Nat.le_of_ble_eq_true rfl) d_X10_own_38 ?_
      refine gb_if_ne 51 d_X10_own_41 (by decide) (fun hc => ?_) (fun hc => ?_)
      · have h := gb_if hc h
        refine gb_aload_n d_X10_own_51 rfl ?_
        refine gb_getr (r := 1) f_X10_14 (hS 0 _ rfl) rfl d_X10_own_52 ?_
        refine gb_iload_n d_X10_own_55 rfl ?_
        refine gb_iload_n d_X10_own_56 rfl ?_
        obtain ⟨r9, e10, h⟩ := gb_bd_e h
        refine gb_cVi (As := [.int x1, .int x2]) (rest := []) m_X10_160 (t_X0_ownWeight (Γ := Γ) hS (ok_X0_1 hS) e10) (ok_X0_1 hS).1 rfl (Nat.le_of_ble_eq_true rfl) rfl rfl (Nat.le_of_ble_eq_true rfl) d_X10_own_57 ?_
        refine gb_istore [(4, .int r9.2), (0, .ref 0), (1, .int x1), (2, .int x2), (3, .int x3)] d_X10_own_60 (Nat.le_of_ble_eq_true rfl) rfl ?_
        refine gb_aload_n d_X10_own_62 rfl ?_
        refine gb_getr (r := 1) f_X10_14 (hS 0 _ rfl) rfl d_X10_own_63 ?_
        refine gb_getr (r := (1 + 2)) f_X10_163 (ok_X0_1 hS).1 rfl d_X10_own_66 ?_
        refine gb_iload_n d_X10_own_69 rfl ?_
        refine gb_bipush 8 d_X10_own_70 rfl ?_
        refine gb_imul d_X10_own_72 ?_
        refine gb_iload_n d_X10_own_73 rfl ?_
        refine gb_iadd d_X10_own_74 ?_
        refine gb_iload_n d_X10_own_75 rfl ?_
        obtain ⟨hi11, h⟩ := gb_ck_e h
        refine gb_iast_ (((x1 * 8) + x2).toNatClampNeg) rfl (ok_X0_1 hS).2.2.1 hi11 d_X10_own_76 ?_
        have h := gb_let_e h
        generalize gb_pi r9.1 (1 + 2) (((x1 * 8) + x2).toNatClampNeg) x3 = g12 at h ⊢
        refine gb_aload_n d_X10_own_77 rfl ?_
        refine gb_iload d_X10_own_78 rfl ?_
        obtain ⟨r13, e14, h⟩ := gb_bd_e h
        refine gb_cVi (As := [.int r9.2]) (rest := []) m_X10_133 (t_X10_grant (Γ := Γ) hS e14) (hS 0 _ rfl) rfl (Nat.le_of_ble_eq_true rfl) rfl rfl (Nat.le_of_ble_eq_true rfl) d_X10_own_80 ?_
        cases h
        exact gb_iret d_X10_own_83 rfl ⟨rfl, rfl, rfl⟩
      · have h := gb_it hc h
        refine gb_pick (lv' := [(0, .ref 0)]) [0] rfl ?_
        exact t_X10_own_44 hS  _  h
  · have h := gb_it hc h
    refine gb_aload_n d_X10_own_10 rfl ?_
    refine gb_iconst (-1) d_X10_own_11 rfl ?_
    obtain ⟨r15, e16, h⟩ := gb_bd_e h
    refine gb_cVi (As := [.int (-1)]) (rest := []) m_X10_119 (t_X10_refuse (Γ := Γ) hS e16) (hS 0 _ rfl) rfl (Nat.le_of_ble_eq_true rfl) rfl rfl (Nat.le_of_ble_eq_true rfl) d_X10_own_12 ?_
    cases h
    exact gb_iret d_X10_own_15 rfl ⟨rfl, rfl, rfl⟩
-- X10_terms
noncomputable def f_X10_terms_22 (sh : List gb_Sh) (g : gb_G)  : Option (gb_G × Int32) := gb_bd (f_X10_refuse sh g (-1)) (fun r3 => some (r3.1, r3.2))
noncomputable def f_X10_terms (sh : List gb_Sh) (g : gb_G) (x1 : Int32) (x2 : Int32) : Option (gb_G × Int32) := gb_bd (f_X10_within sh g x1 0 2) (fun r1 => if r1.2 = 0 then (f_X10_terms_22 sh r1.1 ) else (gb_ck x1 3 (gb_bd (f_X10_within sh r1.1 x2 0 (gb_top x1.toNatClampNeg)) (fun r6 => if r6.2 = 0 then (f_X10_terms_22 sh r6.1 ) else (gb_ck x1 3 (gb_ck x1 3 (gb_let (gb_pi r6.1 (1 + 4) x1.toNatClampNeg x2) (fun g10 => gb_bd (f_X3_clear sh g10 33) (fun r11 => gb_bd (f_X10_grant sh r11 (r6.1.1 (1 + 4) x1.toNatClampNeg)) (fun r13 => some (r13.1, r13.2)))))))))))
set_option maxRecDepth 100000 in
set_option maxHeartbeats 4000000 in
theorem t_X10_terms_22 {Γ : gb_X} {sh : List gb_Sh} {out : gb_G × Int32} (hS : gb_S sh) : ∀ (g : gb_G) , f_X10_terms_22 sh g  = some out → gb_J Γ M_X10_terms 2 (gb_Ri sh out) 0 0 sh g 22 [(0, .ref 0)] [] := by
  intro g  h
  unfold f_X10_terms_22 at h
  refine gb_aload_n d_X10_terms_22 rfl ?_
  refine gb_iconst (-1) d_X10_terms_23 rfl ?_
  obtain ⟨r3, e4, h⟩ := gb_bd_e h
  refine gb_cVi (As := [.int (-1)]) (rest := []) m_X10_119 (t_X10_refuse (Γ := Γ) hS e4) (hS 0 _ rfl) rfl (Nat.le_of_ble_eq_true rfl) rfl rfl (Nat.le_of_ble_eq_true rfl) d_X10_terms_24 ?_
  cases h
  exact gb_iret d_X10_terms_27 rfl ⟨rfl, rfl, rfl⟩
set_option maxRecDepth 100000 in
set_option maxHeartbeats 4000000 in
theorem t_X10_terms {Γ : gb_X} {sh : List gb_Sh} {x1 : Int32} {x2 : Int32} {out : gb_G × Int32} (hS : gb_S sh) {g : gb_G} (h : f_X10_terms sh g x1 x2 = some out) : gb_C Γ M_X10_terms 2 0 0 sh g [.ref 0, .int x1, .int x2] (gb_Ri sh out) := by
  refine gb_C.of rfl (Nat.le_of_ble_eq_true rfl) ?_
  refine gb_pick (lv' := [(0, .ref 0), (1, .int x1), (2, .int x2)]) [0, 1, 2] rfl ?_
  unfold f_X10_terms at h
  refine gb_iload_n d_X10_terms_0 rfl ?_
  refine gb_iconst 0 d_X10_terms_1 rfl ?_
  refine gb_iconst 2 d_X10_terms_2 rfl ?_
  obtain ⟨r1, e2, h⟩ := gb_bd_e h
  refine gb_cSi (As := [.int x1, .int 0, .int 2]) (rest := []) m_X10_115 (t_X10_within (Γ := Γ) hS e2) (Nat.le_of_ble_eq_true rfl) rfl rfl (Nat.le_of_ble_eq_true rfl) d_X10_terms_3 ?_
  refine gb_if_eq 22 d_X10_terms_6 (by decide) (fun hc => ?_) (fun hc => ?_)
  · have h := gb_it hc h
    refine gb_pick (lv' := [(0, .ref 0)]) [0] rfl ?_
    exact t_X10_terms_22 hS  _  h
  · have h := gb_if hc h
    refine gb_iload_n d_X10_terms_9 rfl ?_
    refine gb_iconst 0 d_X10_terms_10 rfl ?_
    refine gb_gst (v := .retAddr 1) (fun h => h.1) rf_X10_166 d_X10_terms_11 ?_
    refine gb_iload_n d_X10_terms_14 rfl ?_
    obtain ⟨hi5, h⟩ := gb_ck_e h
    refine gb_riald (f := gb_top) (fun h => h.2.1) hi5 d_X10_terms_15 ?_
    obtain ⟨r6, e7, h⟩ := gb_bd_e h
    refine gb_cSi (As := [.int x2, .int 0, .int (gb_top x1.toNatClampNeg)]) (rest := []) m_X10_115 (t_X10_within (Γ := Γ) hS e7) (Nat.le_of_ble_eq_true rfl) rfl rfl (Nat.le_of_ble_eq_true rfl) d_X10_terms_16 ?_
    refine gb_if_ne 28 d_X10_terms_19 (by decide) (fun hc => ?_) (fun hc => ?_)
    · have h := gb_if hc h
      refine gb_aload_n d_X10_terms_28 rfl ?_
      refine gb_getr (r := 1) f_X10_14 (hS 0 _ rfl) rfl d_X10_terms_29 ?_
      refine gb_getr (r := (1 + 4)) f_X10_169 (ok_X0_1 hS).1 rfl d_X10_terms_32 ?_
      refine gb_iload_n d_X10_terms_35 rfl ?_
      obtain ⟨hi8, h⟩ := gb_ck_e h
      refine gb_iald_ x1.toNatClampNeg rfl (ok_X0_1 hS).2.2.2.2.1 hi8 d_X10_terms_36 ?_
      refine gb_istore_n [(3, .int (r6.1.1 (1 + 4) x1.toNatClampNeg)), (0, .ref 0), (1, .int x1), (2, .int x2)] d_X10_terms_37 (Nat.le_of_ble_eq_true rfl) rfl ?_
      refine gb_aload_n d_X10_terms_38 rfl ?_
      refine gb_getr (r := 1) f_X10_14 (hS 0 _ rfl) rfl d_X10_terms_39 ?_
      refine gb_getr (r := (1 + 4)) f_X10_169 (ok_X0_1 hS).1 rfl d_X10_terms_42 ?_
      refine gb_iload_n d_X10_terms_45 rfl ?_
      refine gb_iload_n d_X10_terms_46 rfl ?_
      obtain ⟨hi9, h⟩ := gb_ck_e h
      refine gb_iast_ x1.toNatClampNeg rfl (ok_X0_1 hS).2.2.2.2.1 hi9 d_X10_terms_47 ?_
      have h := gb_let_e h
      generalize gb_pi r6.1 (1 + 4) x1.toNatClampNeg x2 = g10 at h ⊢
      refine gb_aload_n d_X10_terms_48 rfl ?_
      refine gb_getr (r := 33) f_X10_35 (hS 0 _ rfl) rfl d_X10_terms_49 ?_
      obtain ⟨r11, e12, h⟩ := gb_bd_e h
      refine gb_cVv (As := []) (rest := []) m_X10_126 (t_X3_clear (Γ := Γ) hS (ok_X3_33 hS) e12) (ok_X3_33 hS).1 rfl (Nat.le_of_ble_eq_true rfl) rfl rfl (Nat.le_of_ble_eq_true rfl) d_X10_terms_52 ?_
      refine gb_aload_n d_X10_terms_55 rfl ?_
      refine gb_iload_n d_X10_terms_56 rfl ?_
      obtain ⟨r13, e14, h⟩ := gb_bd_e h
      refine gb_cVi (As := [.int (r6.1.1 (1 + 4) x1.toNatClampNeg)]) (rest := []) m_X10_133 (t_X10_grant (Γ := Γ) hS e14) (hS 0 _ rfl) rfl (Nat.le_of_ble_eq_true rfl) rfl rfl (Nat.le_of_ble_eq_true rfl) d_X10_terms_57 ?_
      cases h
      exact gb_iret d_X10_terms_60 rfl ⟨rfl, rfl, rfl⟩
    · have h := gb_it hc h
      refine gb_pick (lv' := [(0, .ref 0)]) [0] rfl ?_
      exact t_X10_terms_22 hS  _  h
-- X10_feed
noncomputable def f_X10_feed (sh : List gb_Sh) (g : gb_G) (x1 : Int32) (x2 : Int32) (x3 : Int32) (x4 : Int32) (x5 : Int32) : Option (gb_G × Int32) := if ((g.1 43 1) + 20) ≤ 400 then (gb_bd (f_X9_append sh g x1) (fun r1 => gb_bd (f_X9_append sh r1 x2) (fun r3 => gb_bd (f_X9_append sh r3 x3) (fun r5 => gb_bd (f_X9_append sh r5 x4) (fun r7 => gb_bd (f_X9_append sh r7 x5) (fun r9 => some (r9, (r9.1 43 1)))))))) else (some (g, (-1)))
set_option maxRecDepth 100000 in
set_option maxHeartbeats 4000000 in
theorem t_X10_feed {Γ : gb_X} {sh : List gb_Sh} {x1 : Int32} {x2 : Int32} {x3 : Int32} {x4 : Int32} {x5 : Int32} {out : gb_G × Int32} (hS : gb_S sh) {g : gb_G} (h : f_X10_feed sh g x1 x2 x3 x4 x5 = some out) : gb_C Γ M_X10_feed 1 0 0 sh g [.ref 0, .int x1, .int x2, .int x3, .int x4, .int x5] (gb_Ri sh out) := by
  refine gb_C.of rfl (Nat.le_of_ble_eq_true rfl) ?_
  refine gb_pick (lv' := [(0, .ref 0), (1, .int x1), (2, .int x2), (3, .int x3), (4, .int x4), (5, .int x5)]) [0, 1, 2, 3, 4, 5] rfl ?_
  unfold f_X10_feed at h
  refine gb_aload_n d_X10_feed_0 rfl ?_
  refine gb_getr (r := 43) f_X10_45 (hS 0 _ rfl) rfl d_X10_feed_1 ?_
  refine gb_geti f_X10_172 (hS 43 _ rfl) rfl d_X10_feed_4 ?_
  refine gb_bipush 20 d_X10_feed_7 rfl ?_
  refine gb_iadd d_X10_feed_9 ?_
  refine gb_sipush 400 d_X10_feed_10 rfl ?_
  refine gb_icmp_le 18 d_X10_feed_13 (by decide) (fun hc => ?_) (fun hc => ?_)
  · have h := gb_it hc h
    refine gb_aload_n d_X10_feed_18 rfl ?_
    refine gb_getr (r := 43) f_X10_45 (hS 0 _ rfl) rfl d_X10_feed_19 ?_
    refine gb_iload_n d_X10_feed_22 rfl ?_
    obtain ⟨r1, e2, h⟩ := gb_bd_e h
    refine gb_cVv (As := [.int x1]) (rest := []) m_X10_175 (t_X9_append (Γ := Γ) hS e2) (hS 43 _ rfl) rfl (Nat.le_of_ble_eq_true rfl) rfl rfl (Nat.le_of_ble_eq_true rfl) d_X10_feed_23 ?_
    refine gb_aload_n d_X10_feed_26 rfl ?_
    refine gb_getr (r := 43) f_X10_45 (hS 0 _ rfl) rfl d_X10_feed_27 ?_
    refine gb_iload_n d_X10_feed_30 rfl ?_
    obtain ⟨r3, e4, h⟩ := gb_bd_e h
    refine gb_cVv (As := [.int x2]) (rest := []) m_X10_175 (t_X9_append (Γ := Γ) hS e4) (hS 43 _ rfl) rfl (Nat.le_of_ble_eq_true rfl) rfl rfl (Nat.le_of_ble_eq_true rfl) d_X10_feed_31 ?_
    refine gb_aload_n d_X10_feed_34 rfl ?_
    refine gb_getr (r := 43) f_X10_45 (hS 0 _ rfl) rfl d_X10_feed_35 ?_
    refine gb_iload_n d_X10_feed_38 rfl ?_
    obtain ⟨r5, e6, h⟩ := gb_bd_e h
    refine gb_cVv (As := [.int x3]) (rest := []) m_X10_175 (t_X9_append (Γ := Γ) hS e6) (hS 43 _ rfl) rfl (Nat.le_of_ble_eq_true rfl) rfl rfl (Nat.le_of_ble_eq_true rfl) d_X10_feed_39 ?_
    refine gb_aload_n d_X10_feed_42 rfl ?_
    refine gb_getr (r := 43) f_X10_45 (hS 0 _ rfl) rfl d_X10_feed_43 ?_
    refine gb_iload d_X10_feed_46 rfl ?_
    obtain ⟨r7, e8, h⟩ := gb_bd_e h
    refine gb_cVv (As := [.int x4]) (rest := []) m_X10_175 (t_X9_append (Γ := Γ) hS e8) (hS 43 _ rfl) rfl (Nat.le_of_ble_eq_true rfl) rfl rfl (Nat.le_of_ble_eq_true rfl) d_X10_feed_48 ?_
    refine gb_aload_n d_X10_feed_51 rfl ?_
    refine gb_getr (r := 43) f_X10_45 (hS 0 _ rfl) rfl d_X10_feed_52 ?_
    refine gb_iload d_X10_feed_55 rfl ?_
    obtain ⟨r9, e10, h⟩ := gb_bd_e h
    refine gb_cVv (As := [.int x5]) (rest := []) m_X10_175 (t_X9_append (Γ := Γ) hS e10) (hS 43 _ rfl) rfl (Nat.le_of_ble_eq_true rfl) rfl rfl (Nat.le_of_ble_eq_true rfl) d_X10_feed_57 ?_
    refine gb_aload_n d_X10_feed_60 rfl ?_
    refine gb_getr (r := 43) f_X10_45 (hS 0 _ rfl) rfl d_X10_feed_61 ?_
    refine gb_geti f_X10_172 (hS 43 _ rfl) rfl d_X10_feed_64 ?_
    cases h
    exact gb_iret d_X10_feed_67 rfl ⟨rfl, rfl, rfl⟩
  · have h := gb_if hc h
    refine gb_iconst (-1) d_X10_feed_16 rfl ?_
    cases h
    exact gb_iret d_X10_feed_17 rfl ⟨rfl, rfl, rfl⟩
-- X10_end
noncomputable def f_X10_end (sh : List gb_Sh) (g : gb_G) (x1 : Int32) : Option (gb_G × Int32) := gb_bd (f_X10_within sh g x1 0 (g.1 43 1)) (fun r1 => if r1.2 = 0 then (some (r1.1, (-1))) else (gb_let (gb_pi r1.1 43 1 x1) (fun g3 => some (g3, x1))))
set_option maxRecDepth 100000 in
set_option maxHeartbeats 4000000 in
theorem t_X10_end {Γ : gb_X} {sh : List gb_Sh} {x1 : Int32} {out : gb_G × Int32} (hS : gb_S sh) {g : gb_G} (h : f_X10_end sh g x1 = some out) : gb_C Γ M_X10_end 1 0 0 sh g [.ref 0, .int x1] (gb_Ri sh out) := by
  refine gb_C.of rfl (Nat.le_of_ble_eq_true rfl) ?_
  refine gb_pick (lv' := [(0, .ref 0), (1, .int x1)]) [0, 1] rfl ?_
  unfold f_X10_end at h
  refine gb_iload_n d_X10_end_0 rfl ?_
  refine gb_iconst 0 d_X10_end_1 rfl ?_
  refine gb_aload_n d_X10_end_2 rfl ?_
  refine gb_getr (r := 43) f_X10_45 (hS 0 _ rfl) rfl d_X10_end_3 ?_
  refine gb_geti f_X10_172 (hS 43 _ rfl) rfl d_X10_end_6 ?_
  obtain ⟨r1, e2, h⟩ := gb_bd_e h
  refine gb_cSi (As := [.int x1, .int 0, .int (g.1 43 1)]) (rest := []) m_X10_115 (t_X10_within (Γ := Γ) hS e2) (Nat.le_of_ble_eq_true rfl) rfl rfl (Nat.le_of_ble_eq_true rfl) d_X10_end_9 ?_
  refine gb_if_ne 17 d_X10_end_12 (by decide) (fun hc => ?_) (fun hc => ?_)
  · have h := gb_if hc h
    refine gb_aload_n d_X10_end_17 rfl ?_
    refine gb_getr (r := 43) f_X10_45 (hS 0 _ rfl) rfl d_X10_end_18 ?_
    refine gb_iload_n d_X10_end_21 rfl ?_
    refine gb_puti f_X10_172 (fun h => nomatch h) (hS 43 _ rfl) rfl rfl rfl d_X10_end_22 ?_
    have h := gb_let_e h
    generalize gb_pi r1.1 43 1 x1 = g3 at h ⊢
    refine gb_iload_n d_X10_end_25 rfl ?_
    cases h
    exact gb_iret d_X10_end_26 rfl ⟨rfl, rfl, rfl⟩
  · have h := gb_it hc h
    refine gb_iconst (-1) d_X10_end_15 rfl ?_
    cases h
    exact gb_iret d_X10_end_16 rfl ⟨rfl, rfl, rfl⟩
-- X10_addFromTape
noncomputable def f_X10_addFromTape (sh : List gb_Sh) (g : gb_G) (x1 : Int32) : Option (gb_G × Int32) := if (g.1 43 1) < (x1 + 4) then (some (g, 0)) else (if (g.1 1 0) < 8 then (gb_bd (f_X9_byteAt sh g x1) (fun r1 => gb_bd (f_X9_byteAt sh r1.1 (x1 + 1)) (fun r3 => gb_bd (f_X9_byteAt sh r3.1 (x1 + 2)) (fun r5 => gb_bd (f_X9_byteAt sh r5.1 (x1 + 3)) (fun r7 => gb_bd (f_X10_canBeGood sh r7.1 r1.2 r3.2 r5.2 r7.2) (fun r9 => if r9.2 = 0 then (some (r9.1, 0)) else (gb_bd (f_X0_add sh r9.1 1 r1.2 r3.2 r5.2 r7.2 0) (fun r11 => some (r11.1, 1))))))))) else (some (g, 0)))
set_option maxRecDepth 100000 in
set_option maxHeartbeats 4000000 in
theorem t_X10_addFromTape {Γ : gb_X} {sh : List gb_Sh} {x1 : Int32} {out : gb_G × Int32} (hS : gb_S sh) {g : gb_G} (h : f_X10_addFromTape sh g x1 = some out) : gb_C Γ M_X10_addFromTape 4 0 0 sh g [.ref 0, .int x1] (gb_Ri sh out) := by
  refine gb_C.of rfl (Nat.le_of_ble_eq_true rfl) ?_
  refine gb_pick (lv' := [(0, .ref 0), (1, .int x1)]) [0, 1] rfl ?_
  unfold f_X10_addFromTape at h
  refine gb_iload_n d_X10_addFromTape_0 rfl ?_
  refine gb_iconst 4 d_X10_addFromTape_1 rfl ?_
  refine gb_iadd d_X10_addFromTape_2 ?_
  refine gb_aload_n d_X10_addFromTape_3 rfl ?_
  refine gb_getr (r := 43) f_X10_45 (hS 0 _ rfl) rfl d_X10_addFromTape_4 ?_
  refine gb_geti f_X10_172 (hS 43 _ rfl) rfl d_X10_addFromTape_7 ?_
  refine gb_icmp_gt 25 d_X10_addFromTape_10 (by decide) (fun hc => ?_) (fun hc => ?_)
  · have h := gb_it hc h
    refine gb_iconst 0 d_X10_addFromTape_25 rfl ?_
    cases h
    exact gb_zret d_X10_addFromTape_26 rfl rfl ⟨rfl, rfl, rfl⟩
  · have h := gb_if hc h
    refine gb_aload_n d_X10_addFromTape_13 rfl ?_
    refine gb_getr (r := 1) f_X10_14 (hS 0 _ rfl) rfl d_X10_addFromTape_14 ?_
    refine gb_geti f_X10_123 (ok_X0_1 hS).1 rfl d_X10_addFromTape_17 ?_
    refine gb_bipush 8 d_X10_addFromTape_20 rfl ?_
    refine gb_icmp_lt 27 d_X10_addFromTape_22 (by decide) (fun hc => ?_) (fun hc => ?_)
    · have h := gb_it hc h
      refine gb_aload_n d_X10_addFromTape_27 rfl ?_
      refine gb_getr (r := 43) f_X10_45 (hS 0 _ rfl) rfl d_X10_addFromTape_28 ?_
      refine gb_iload_n d_X10_addFromTape_31 rfl ?_
      obtain ⟨r1, e2, h⟩ := gb_bd_e h
      refine gb_cVi (As := [.int x1]) (rest := []) m_X10_182 (t_X9_byteAt (Γ := Γ) hS e2) (hS 43 _ rfl) rfl (Nat.le_of_ble_eq_true rfl) rfl rfl (Nat.le_of_ble_eq_true rfl) d_X10_addFromTape_32 ?_
      refine gb_istore_n [(2, .int r1.2), (0, .ref 0), (1, .int x1)] d_X10_addFromTape_35 (Nat.le_of_ble_eq_true rfl) rfl ?_
      refine gb_aload_n d_X10_addFromTape_36 rfl ?_
      refine gb_getr (r := 43) f_X10_45 (hS 0 _ rfl) rfl d_X10_addFromTape_37 ?_
      refine gb_iload_n d_X10_addFromTape_40 rfl ?_
      refine gb_iconst 1 d_X10_addFromTape_41 rfl ?_
      refine gb_iadd d_X10_addFromTape_42 ?_
      obtain ⟨r3, e4, h⟩ := gb_bd_e h
      refine gb_cVi (As := [.int (x1 + 1)]) (rest := []) m_X10_182 (t_X9_byteAt (Γ := Γ) hS e4) (hS 43 _ rfl) rfl (Nat.le_of_ble_eq_true rfl) rfl rfl (Nat.le_of_ble_eq_true rfl) d_X10_addFromTape_43 ?_
      refine gb_istore_n [(3, .int r3.2), (2, .int r1.2), (0, .ref 0), (1, .int x1)] d_X10_addFromTape_46 (Nat.le_of_ble_eq_true rfl) rfl ?_
      refine gb_aload_n d_X10_addFromTape_47 rfl ?_
      refine gb_getr (r := 43) f_X10_45 (hS 0 _ rfl) rfl d_X10_addFromTape_48 ?_
      refine gb_iload_n d_X10_addFromTape_51 rfl ?_
      refine gb_iconst 2 d_X10_addFromTape_52 rfl ?_
      refine gb_iadd d_X10_addFromTape_53 ?_
      obtain ⟨r5, e6, h⟩ := gb_bd_e h
      refine gb_cVi (As := [.int (x1 + 2)]) (rest := []) m_X10_182 (t_X9_byteAt (Γ := Γ) hS e6) (hS 43 _ rfl) rfl (Nat.le_of_ble_eq_true rfl) rfl rfl (Nat.le_of_ble_eq_true rfl) d_X10_addFromTape_54 ?_
      refine gb_istore [(4, .int r5.2), (3, .int r3.2), (2, .int r1.2), (0, .ref 0), (1, .int x1)] d_X10_addFromTape_57 (Nat.le_of_ble_eq_true rfl) rfl ?_
      refine gb_aload_n d_X10_addFromTape_59 rfl ?_
      refine gb_getr (r := 43) f_X10_45 (hS 0 _ rfl) rfl d_X10_addFromTape_60 ?_
      refine gb_iload_n d_X10_addFromTape_63 rfl ?_
      refine gb_iconst 3 d_X10_addFromTape_64 rfl ?_
      refine gb_iadd d_X10_addFromTape_65 ?_
      obtain ⟨r7, e8, h⟩ := gb_bd_e h
      refine gb_cVi (As := [.int (x1 + 3)]) (rest := []) m_X10_182 (t_X9_byteAt (Γ := Γ) hS e8) (hS 43 _ rfl) rfl (Nat.le_of_ble_eq_true rfl) rfl rfl (Nat.le_of_ble_eq_true rfl) d_X10_addFromTape_66 ?_
      refine gb_istore [(5, .int r7.2), (4, .int r5.2), (3, .int r3.2), (2, .int r1.2), (0, .ref 0), (1, .int x1)] d_X10_addFromTape_69 (Nat.le_of_ble_eq_true rfl) rfl ?_
      refine gb_iload_n d_X10_addFromTape_71 rfl ?_
      refine gb_iload_n d_X10_addFromTape_72 rfl ?_
      refine gb_iload d_X10_addFromTape_73 rfl ?_
      refine gb_iload d_X10_addFromTape_75 rfl ?_
      obtain ⟨r9, e10, h⟩ := gb_bd_e h
      refine gb_cSi (As := [.int r1.2, .int r3.2, .int r5.2, .int r7.2]) (rest := []) m_X10_111 (t_X10_canBeGood (Γ := Γ) hS e10) (Nat.le_of_ble_eq_true rfl) rfl rfl (Nat.le_of_ble_eq_true rfl) d_X10_addFromTape_77 ?_
      refine gb_if_ne 85 d_X10_addFromTape_80 (by decide) (fun hc => ?_) (fun hc => ?_)
      · have h := gb_if hc h
        refine gb_aload_n d_X10_addFromTape_85 rfl ?_
        refine gb_getr (r := 1) f_X10_14 (hS 0 _ rfl) rfl d_X10_addFromTape_86 ?_
        refine gb_iload_n d_X10_addFromTape_89 rfl ?_
        refine gb_iload_n d_X10_addFromTape_90 rfl ?_
        refine gb_iload d_X10_addFromTape_91 rfl ?_
        refine gb_iload d_X10_addFromTape_93 rfl ?_
        refine gb_iconst 0 d_X10_addFromTape_95 rfl ?_
        obtain ⟨r11, e12, h⟩ := gb_bd_e h
        refine gb_cVi (As := [.int r1.2, .int r3.2, .int r5.2, .int r7.2, .int 0]) (rest := []) m_X10_129 (t_X0_add (Γ := Γ) hS (ok_X0_1 hS) e12) (ok_X0_1 hS).1 rfl (Nat.le_of_ble_eq_true rfl) rfl rfl (Nat.le_of_ble_eq_true rfl) d_X10_addFromTape_96 ?_
        refine gb_pop d_X10_addFromTape_99 rfl ?_
        refine gb_iconst 1 d_X10_addFromTape_100 rfl ?_
        cases h
        exact gb_zret d_X10_addFromTape_101 rfl rfl ⟨rfl, rfl, rfl⟩
      · have h := gb_it hc h
        refine gb_iconst 0 d_X10_addFromTape_83 rfl ?_
        cases h
        exact gb_zret d_X10_addFromTape_84 rfl rfl ⟨rfl, rfl, rfl⟩
    · have h := gb_if hc h
      refine gb_iconst 0 d_X10_addFromTape_25 rfl ?_
      cases h
      exact gb_zret d_X10_addFromTape_26 rfl rfl ⟨rfl, rfl, rfl⟩
-- X10_row
noncomputable def f_X10_row_61 (sh : List gb_Sh) (K26 : gb_G → Int32 → Int32 → Option (gb_G × Int32)) (g : gb_G) (y1 : Int32) (y2 : Int32) : Option (gb_G × Int32) := K26 g y1 (y2 + 4)
noncomputable def f_X10_row_26 (sh : List gb_Sh) : Nat → gb_G → Int32 → Int32 → Option (gb_G × Int32)
  | 0, _, _, _ => none
  | n + 1, g, y1, y2 => if (g.1 43 1) ≤ y2 then (gb_let (gb_pi g 43 1 0) (fun g2 => gb_bd (f_X3_clear sh g2 33) (fun r3 => gb_bd (f_X10_grant sh r3 y1) (fun r5 => some (r5.1, r5.2))))) else (gb_bd (f_X10_addFromTape sh g y2) (fun r7 => if r7.2 = 0 then (gb_let (gb_pi r7.1 0 16 ((r7.1.1 0 16) + 1)) (fun g9 => f_X10_row_61 sh (fun w w0 w1 => f_X10_row_26 sh n w w0 w1) g9 y1 y2)) else (f_X10_row_61 sh (fun w w0 w1 => f_X10_row_26 sh n w w0 w1) r7.1 (y1 + 1) y2)))
noncomputable def f_X10_row (sh : List gb_Sh) (g : gb_G) : Option (gb_G × Int32) := if (g.1 43 1) = 0 then (gb_bd (f_X10_refuse sh g (-6)) (fun r10 => some (r10.1, r10.2))) else (gb_let (gb_pi g 0 16 0) (fun g1 => f_X10_row_26 sh gb_N g1 0 0))
set_option maxRecDepth 100000 in
set_option maxHeartbeats 4000000 in
theorem t_X10_row_61 {Γ : gb_X} {sh : List gb_Sh} {out : gb_G × Int32} (hS : gb_S sh) {K26 : gb_G → Int32 → Int32 → Option (gb_G × Int32)} (hK26 : ∀ (g : gb_G) (y1 : Int32) (y2 : Int32), K26 g y1 y2 = some out → gb_J Γ M_X10_row 5 (gb_Ri sh out) 0 0 sh g 26 [(0, .ref 0), (1, .int y1), (2, .int y2)] []) : ∀ (g : gb_G) (y1 : Int32) (y2 : Int32), f_X10_row_61 sh K26 g y1 y2 = some out → gb_J Γ M_X10_row 5 (gb_Ri sh out) 0 0 sh g 61 [(0, .ref 0), (1, .int y1), (2, .int y2)] [] := by
  intro g y1 y2 h
  unfold f_X10_row_61 at h
  refine gb_iinc (y2 + 4) [(2, .int (y2 + 4)), (0, .ref 0), (1, .int y1)] d_X10_row_61 (Nat.le_of_ble_eq_true rfl) rfl rfl rfl ?_
  refine gb_goto 26 d_X10_row_64 (by decide) ?_
  refine gb_pick (lv' := [(0, .ref 0), (1, .int y1), (2, .int (y2 + 4))]) [1, 2, 0] rfl ?_
  exact hK26 _ y1 (y2 + 4) h
set_option maxRecDepth 100000 in
set_option maxHeartbeats 4000000 in
theorem t_X10_row_26 {Γ : gb_X} {sh : List gb_Sh} {out : gb_G × Int32} (hS : gb_S sh) : ∀ (n : Nat) (g : gb_G) (y1 : Int32) (y2 : Int32), f_X10_row_26 sh n g y1 y2 = some out → gb_J Γ M_X10_row 5 (gb_Ri sh out) 0 0 sh g 26 [(0, .ref 0), (1, .int y1), (2, .int y2)] [] := by
  intro n
  induction n with
  | zero => intro g y1 y2 h; cases h
  | succ n ih =>
    intro g y1 y2 h
    rw [f_X10_row_26] at h
    refine gb_iload_n d_X10_row_26 rfl ?_
    refine gb_aload_n d_X10_row_27 rfl ?_
    refine gb_getr (r := 43) f_X10_45 (hS 0 _ rfl) rfl d_X10_row_28 ?_
    refine gb_geti f_X10_172 (hS 43 _ rfl) rfl d_X10_row_31 ?_
    refine gb_icmp_ge 67 d_X10_row_34 (by decide) (fun hc => ?_) (fun hc => ?_)
    · have h := gb_it hc h
      refine gb_aload_n d_X10_row_67 rfl ?_
      refine gb_getr (r := 43) f_X10_45 (hS 0 _ rfl) rfl d_X10_row_68 ?_
      refine gb_iconst 0 d_X10_row_71 rfl ?_
      refine gb_puti f_X10_172 (fun h => nomatch h) (hS 43 _ rfl) rfl rfl rfl d_X10_row_72 ?_
      have h := gb_let_e h
      generalize gb_pi g 43 1 0 = g2 at h ⊢
      refine gb_aload_n d_X10_row_75 rfl ?_
      refine gb_getr (r := 33) f_X10_35 (hS 0 _ rfl) rfl d_X10_row_76 ?_
      obtain ⟨r3, e4, h⟩ := gb_bd_e h
      refine gb_cVv (As := []) (rest := []) m_X10_126 (t_X3_clear (Γ := Γ) hS (ok_X3_33 hS) e4) (ok_X3_33 hS).1 rfl (Nat.le_of_ble_eq_true rfl) rfl rfl (Nat.le_of_ble_eq_true rfl) d_X10_row_79 ?_
      refine gb_aload_n d_X10_row_82 rfl ?_
      refine gb_iload_n d_X10_row_83 rfl ?_
      obtain ⟨r5, e6, h⟩ := gb_bd_e h
      refine gb_cVi (As := [.int y1]) (rest := []) m_X10_133 (t_X10_grant (Γ := Γ) hS e6) (hS 0 _ rfl) rfl (Nat.le_of_ble_eq_true rfl) rfl rfl (Nat.le_of_ble_eq_true rfl) d_X10_row_84 ?_
      cases h
      exact gb_iret d_X10_row_87 rfl ⟨rfl, rfl, rfl⟩
    · have h := gb_if hc h
      refine gb_aload_n d_X10_row_37 rfl ?_
      refine gb_iload_n d_X10_row_38 rfl ?_
      obtain ⟨r7, e8, h⟩ := gb_bd_e h
      refine gb_cVi (As := [.int y2]) (rest := []) m_X10_179 (t_X10_addFromTape (Γ := Γ) hS e8) (hS 0 _ rfl) rfl (Nat.le_of_ble_eq_true rfl) rfl rfl (Nat.le_of_ble_eq_true rfl) d_X10_row_39 ?_
      refine gb_if_eq 51 d_X10_row_42 (by decide) (fun hc => ?_) (fun hc => ?_)
      · have h := gb_it hc h
        refine gb_aload_n d_X10_row_51 rfl ?_
        refine gb_dup d_X10_row_52 rfl ?_
        refine gb_geti f_X10_102 (hS 0 _ rfl) rfl d_X10_row_53 ?_
        refine gb_iconst 1 d_X10_row_56 rfl ?_
        refine gb_iadd d_X10_row_57 ?_
        refine gb_puti f_X10_102 (fun h => nomatch h) (hS 0 _ rfl) rfl rfl rfl d_X10_row_58 ?_
        have h := gb_let_e h
        generalize gb_pi r7.1 0 16 ((r7.1.1 0 16) + 1) = g9 at h ⊢
        exact t_X10_row_61 hS (fun w w0 w1 hw => ih w w0 w1 hw) _ y1 y2 h
      · have h := gb_if hc h
        refine gb_iinc (y1 + 1) [(1, .int (y1 + 1)), (0, .ref 0), (2, .int y2)] d_X10_row_45 (Nat.le_of_ble_eq_true rfl) rfl rfl rfl ?_
        refine gb_goto 61 d_X10_row_48 (by decide) ?_
        refine gb_pick (lv' := [(0, .ref 0), (1, .int (y1 + 1)), (2, .int y2)]) [1, 0, 2] rfl ?_
        exact t_X10_row_61 hS (fun w w0 w1 hw => ih w w0 w1 hw) _ (y1 + 1) y2 h
set_option maxRecDepth 100000 in
set_option maxHeartbeats 4000000 in
theorem t_X10_row {Γ : gb_X} {sh : List gb_Sh} {out : gb_G × Int32} (hS : gb_S sh) {g : gb_G} (h : f_X10_row sh g = some out) : gb_C Γ M_X10_row 5 0 0 sh g [.ref 0] (gb_Ri sh out) := by
  refine gb_C.of rfl (Nat.le_of_ble_eq_true rfl) ?_
  refine gb_pick (lv' := [(0, .ref 0)]) [0] rfl ?_
  unfold f_X10_row at h
  refine gb_aload_n d_X10_row_0 rfl ?_
  refine gb_getr (r := 43) f_X10_45 (hS 0 _ rfl) rfl d_X10_row_1 ?_
  refine gb_geti f_X10_172 (hS 43 _ rfl) rfl d_X10_row_4 ?_
  refine gb_if_ne 17 d_X10_row_7 (by decide) (fun hc => ?_) (fun hc => ?_)
  · have h := gb_if hc h
    refine gb_iconst 0 d_X10_row_17 rfl ?_
    refine gb_istore_n [(1, .int 0), (0, .ref 0)] d_X10_row_18 (Nat.le_of_ble_eq_true rfl) rfl ?_
    refine gb_aload_n d_X10_row_19 rfl ?_
    refine gb_iconst 0 d_X10_row_20 rfl ?_
    refine gb_puti f_X10_102 (fun h => nomatch h) (hS 0 _ rfl) rfl rfl rfl d_X10_row_21 ?_
    have h := gb_let_e h
    generalize gb_pi g 0 16 0 = g1 at h ⊢
    refine gb_iconst 0 d_X10_row_24 rfl ?_
    refine gb_istore_n [(2, .int 0), (1, .int 0), (0, .ref 0)] d_X10_row_25 (Nat.le_of_ble_eq_true rfl) rfl ?_
    refine gb_pick (lv' := [(0, .ref 0), (1, .int 0), (2, .int 0)]) [2, 1, 0] rfl ?_
    exact t_X10_row_26 hS  gb_N _ 0 0 h
  · have h := gb_it hc h
    refine gb_aload_n d_X10_row_10 rfl ?_
    refine gb_bipush (-6) d_X10_row_11 rfl ?_
    obtain ⟨r10, e11, h⟩ := gb_bd_e h
    refine gb_cVi (As := [.int (-6)]) (rest := []) m_X10_119 (t_X10_refuse (Γ := Γ) hS e11) (hS 0 _ rfl) rfl (Nat.le_of_ble_eq_true rfl) rfl rfl (Nat.le_of_ble_eq_true rfl) d_X10_row_13 ?_
    cases h
    exact gb_iret d_X10_row_16 rfl ⟨rfl, rfl, rfl⟩
-- X10_commas
noncomputable def f_X10_commas (sh : List gb_Sh) (g : gb_G) : Option (gb_G × Int32) := some (g, (g.1 0 16))
set_option maxRecDepth 100000 in
set_option maxHeartbeats 4000000 in
theorem t_X10_commas {Γ : gb_X} {sh : List gb_Sh} {out : gb_G × Int32} (hS : gb_S sh) {g : gb_G} (h : f_X10_commas sh g = some out) : gb_C Γ M_X10_commas 0 0 0 sh g [.ref 0] (gb_Ri sh out) := by
  refine gb_C.of rfl (Nat.le_of_ble_eq_true rfl) ?_
  refine gb_pick (lv' := [(0, .ref 0)]) [0] rfl ?_
  unfold f_X10_commas at h
  refine gb_aload_n d_X10_commas_0 rfl ?_
  refine gb_geti f_X10_102 (hS 0 _ rfl) rfl d_X10_commas_1 ?_
  cases h
  exact gb_iret d_X10_commas_4 rfl ⟨rfl, rfl, rfl⟩
-- X10_changeLacking
noncomputable def f_X10_changeLacking_44 (sh : List gb_Sh) (g : gb_G) (y1 : Int32) (y2 : Int32) (z0 : Int32) : Option (gb_G × Int32) := gb_bd (f_X3_remember sh g 33 z0 y1 1) (fun r5 => gb_bd (f_X0_write sh r5 1 y1 5 y2) (fun r7 => gb_bd (f_X0_lackingCount sh r7 1) (fun r9 => some (r9.1, r9.2))))
noncomputable def f_X10_changeLacking (sh : List gb_Sh) (g : gb_G) (x1 : Int32) (x2 : Int32) : Option (gb_G × Int32) := gb_bd (f_X0_has sh g 1 x1) (fun r1 => if r1.2 = 0 then (some (r1.1, (-2))) else (gb_bd (f_X0_read sh r1.1 1 x1 5) (fun r3 => if r3.2 = x2 then (some (r3.1, (-3))) else (if x2 = 1 then (f_X10_changeLacking_44 sh r3.1 x1 x2 0) else (f_X10_changeLacking_44 sh r3.1 x1 x2 1)))))
set_option maxRecDepth 100000 in
set_option maxHeartbeats 4000000 in
theorem t_X10_changeLacking_44 {Γ : gb_X} {sh : List gb_Sh} {out : gb_G × Int32} (hS : gb_S sh) : ∀ (g : gb_G) (y1 : Int32) (y2 : Int32) (z0 : Int32), f_X10_changeLacking_44 sh g y1 y2 z0 = some out → gb_J Γ M_X10_changeLacking 3 (gb_Ri sh out) 0 0 sh g 44 [(0, .ref 0), (1, .int y1), (2, .int y2)] [.int z0, .ref 33] := by
  intro g y1 y2 z0 h
  unfold f_X10_changeLacking_44 at h
  refine gb_iload_n d_X10_changeLacking_44 rfl ?_
  refine gb_aload_n d_X10_changeLacking_45 rfl ?_
  refine gb_getr (r := 1) f_X10_14 (hS 0 _ rfl) rfl d_X10_changeLacking_46 ?_
  obtain ⟨r5, e6, h⟩ := gb_bd_e h
  refine gb_cVv (As := [.int z0, .int y1, .ref 1]) (rest := []) m_X10_259 (t_X3_remember (Γ := Γ) hS (ok_X3_33 hS) (ok_X0_1 hS) e6) (ok_X3_33 hS).1 rfl (Nat.le_of_ble_eq_true rfl) rfl rfl (Nat.le_of_ble_eq_true rfl) d_X10_changeLacking_49 ?_
  refine gb_aload_n d_X10_changeLacking_52 rfl ?_
  refine gb_getr (r := 1) f_X10_14 (hS 0 _ rfl) rfl d_X10_changeLacking_53 ?_
  refine gb_iload_n d_X10_changeLacking_56 rfl ?_
  refine gb_iconst 5 d_X10_changeLacking_57 rfl ?_
  refine gb_iload_n d_X10_changeLacking_58 rfl ?_
  obtain ⟨r7, e8, h⟩ := gb_bd_e h
  refine gb_cVv (As := [.int y1, .int 5, .int y2]) (rest := []) m_X10_153 (t_X0_write (Γ := Γ) hS (ok_X0_1 hS) e8) (ok_X0_1 hS).1 rfl (Nat.le_of_ble_eq_true rfl) rfl rfl (Nat.le_of_ble_eq_true rfl) d_X10_changeLacking_59 ?_
  refine gb_aload_n d_X10_changeLacking_62 rfl ?_
  refine gb_getr (r := 1) f_X10_14 (hS 0 _ rfl) rfl d_X10_changeLacking_63 ?_
  obtain ⟨r9, e10, h⟩ := gb_bd_e h
  refine gb_cVi (As := []) (rest := []) m_X10_245 (t_X0_lackingCount (Γ := Γ) hS (ok_X0_1 hS) e10) (ok_X0_1 hS).1 rfl (Nat.le_of_ble_eq_true rfl) rfl rfl (Nat.le_of_ble_eq_true rfl) d_X10_changeLacking_66 ?_
  cases h
  exact gb_iret d_X10_changeLacking_69 rfl ⟨rfl, rfl, rfl⟩
set_option maxRecDepth 100000 in
set_option maxHeartbeats 4000000 in
theorem t_X10_changeLacking {Γ : gb_X} {sh : List gb_Sh} {x1 : Int32} {x2 : Int32} {out : gb_G × Int32} (hS : gb_S sh) {g : gb_G} (h : f_X10_changeLacking sh g x1 x2 = some out) : gb_C Γ M_X10_changeLacking 3 0 0 sh g [.ref 0, .int x1, .int x2] (gb_Ri sh out) := by
  refine gb_C.of rfl (Nat.le_of_ble_eq_true rfl) ?_
  refine gb_pick (lv' := [(0, .ref 0), (1, .int x1), (2, .int x2)]) [0, 1, 2] rfl ?_
  unfold f_X10_changeLacking at h
  refine gb_aload_n d_X10_changeLacking_0 rfl ?_
  refine gb_getr (r := 1) f_X10_14 (hS 0 _ rfl) rfl d_X10_changeLacking_1 ?_
  refine gb_iload_n d_X10_changeLacking_4 rfl ?_
  obtain ⟨r1, e2, h⟩ := gb_bd_e h
  refine gb_cVi (As := [.int x1]) (rest := []) m_X10_140 (t_X0_has (Γ := Γ) hS (ok_X0_1 hS) e2) (ok_X0_1 hS).1 rfl (Nat.le_of_ble_eq_true rfl) rfl rfl (Nat.le_of_ble_eq_true rfl) d_X10_changeLacking_5 ?_
  refine gb_if_ne 14 d_X10_changeLacking_8 (by decide) (fun hc => ?_) (fun hc => ?_)
  · have h := gb_if hc h
    refine gb_aload_n d_X10_changeLacking_14 rfl ?_
    refine gb_getr (r := 1) f_X10_14 (hS 0 _ rfl) rfl d_X10_changeLacking_15 ?_
    refine gb_iload_n d_X10_changeLacking_18 rfl ?_
    refine gb_iconst 5 d_X10_changeLacking_19 rfl ?_
    obtain ⟨r3, e4, h⟩ := gb_bd_e h
    refine gb_cVi (As := [.int x1, .int 5]) (rest := []) m_X10_136 (t_X0_read (Γ := Γ) hS (ok_X0_1 hS) e4) (ok_X0_1 hS).1 rfl (Nat.le_of_ble_eq_true rfl) rfl rfl (Nat.le_of_ble_eq_true rfl) d_X10_changeLacking_20 ?_
    refine gb_iload_n d_X10_changeLacking_23 rfl ?_
    refine gb_icmp_ne 30 d_X10_changeLacking_24 (by decide) (fun hc => ?_) (fun hc => ?_)
    · have h := gb_if hc h
      refine gb_aload_n d_X10_changeLacking_30 rfl ?_
      refine gb_getr (r := 33) f_X10_35 (hS 0 _ rfl) rfl d_X10_changeLacking_31 ?_
      refine gb_iload_n d_X10_changeLacking_34 rfl ?_
      refine gb_iconst 1 d_X10_changeLacking_35 rfl ?_
      refine gb_icmp_ne 43 d_X10_changeLacking_36 (by decide) (fun hc => ?_) (fun hc => ?_)
      · have h := gb_if hc h
        refine gb_iconst 1 d_X10_changeLacking_43 rfl ?_
        exact t_X10_changeLacking_44 hS  _ x1 x2 1 h
      · have h := gb_it hc h
        refine gb_iconst 0 d_X10_changeLacking_39 rfl ?_
        refine gb_goto 44 d_X10_changeLacking_40 (by decide) ?_
        exact t_X10_changeLacking_44 hS  _ x1 x2 0 h
    · have h := gb_it hc h
      refine gb_bipush (-3) d_X10_changeLacking_27 rfl ?_
      cases h
      exact gb_iret d_X10_changeLacking_29 rfl ⟨rfl, rfl, rfl⟩
  · have h := gb_it hc h
    refine gb_bipush (-2) d_X10_changeLacking_11 rfl ?_
    cases h
    exact gb_iret d_X10_changeLacking_13 rfl ⟨rfl, rfl, rfl⟩
-- X10_changeWeight
noncomputable def f_X10_changeWeight (sh : List gb_Sh) (g : gb_G) (x1 : Int32) (x2 : Int32) : Option (gb_G × Int32) := gb_bd (f_X10_within sh g x2 0 99) (fun r1 => if r1.2 = 0 then (some (r1.1, (-1))) else (gb_bd (f_X0_has sh r1.1 1 x1) (fun r3 => if r3.2 = 0 then (some (r3.1, (-2))) else (gb_bd (f_X3_remember sh r3.1 33 2 x1 1) (fun r5 => gb_bd (f_X0_read sh r5 1 x1 2) (fun r7 => gb_bd (f_X0_write sh r7.1 1 x1 2 x2) (fun r9 => some (r9, r7.2))))))))
set_option maxRecDepth 100000 in
set_option maxHeartbeats 4000000 in
theorem t_X10_changeWeight {Γ : gb_X} {sh : List gb_Sh} {x1 : Int32} {x2 : Int32} {out : gb_G × Int32} (hS : gb_S sh) {g : gb_G} (h : f_X10_changeWeight sh g x1 x2 = some out) : gb_C Γ M_X10_changeWeight 3 0 0 sh g [.ref 0, .int x1, .int x2] (gb_Ri sh out) := by
  refine gb_C.of rfl (Nat.le_of_ble_eq_true rfl) ?_
  refine gb_pick (lv' := [(0, .ref 0), (1, .int x1), (2, .int x2)]) [0, 1, 2] rfl ?_
  unfold f_X10_changeWeight at h
  refine gb_iload_n d_X10_changeWeight_0 rfl ?_
  refine gb_iconst 0 d_X10_changeWeight_1 rfl ?_
  refine gb_bipush 99 d_X10_changeWeight_2 rfl ?_
  obtain ⟨r1, e2, h⟩ := gb_bd_e h
  refine gb_cSi (As := [.int x2, .int 0, .int 99]) (rest := []) m_X10_115 (t_X10_within (Γ := Γ) hS e2) (Nat.le_of_ble_eq_true rfl) rfl rfl (Nat.le_of_ble_eq_true rfl) d_X10_changeWeight_4 ?_
  refine gb_if_ne 12 d_X10_changeWeight_7 (by decide) (fun hc => ?_) (fun hc => ?_)
  · have h := gb_if hc h
    refine gb_aload_n d_X10_changeWeight_12 rfl ?_
    refine gb_getr (r := 1) f_X10_14 (hS 0 _ rfl) rfl d_X10_changeWeight_13 ?_
    refine gb_iload_n d_X10_changeWeight_16 rfl ?_
    obtain ⟨r3, e4, h⟩ := gb_bd_e h
    refine gb_cVi (As := [.int x1]) (rest := []) m_X10_140 (t_X0_has (Γ := Γ) hS (ok_X0_1 hS) e4) (ok_X0_1 hS).1 rfl (Nat.le_of_ble_eq_true rfl) rfl rfl (Nat.le_of_ble_eq_true rfl) d_X10_changeWeight_17 ?_
    refine gb_if_ne 26 d_X10_changeWeight_20 (by decide) (fun hc => ?_) (fun hc => ?_)
    · have h := gb_if hc h
      refine gb_aload_n d_X10_changeWeight_26 rfl ?_
      refine gb_getr (r := 33) f_X10_35 (hS 0 _ rfl) rfl d_X10_changeWeight_27 ?_
      refine gb_iconst 2 d_X10_changeWeight_30 rfl ?_
      refine gb_iload_n d_X10_changeWeight_31 rfl ?_
      refine gb_aload_n d_X10_changeWeight_32 rfl ?_
      refine gb_getr (r := 1) f_X10_14 (hS 0 _ rfl) rfl d_X10_changeWeight_33 ?_
      obtain ⟨r5, e6, h⟩ := gb_bd_e h
      refine gb_cVv (As := [.int 2, .int x1, .ref 1]) (rest := []) m_X10_259 (t_X3_remember (Γ := Γ) hS (ok_X3_33 hS) (ok_X0_1 hS) e6) (ok_X3_33 hS).1 rfl (Nat.le_of_ble_eq_true rfl) rfl rfl (Nat.le_of_ble_eq_true rfl) d_X10_changeWeight_36 ?_
      refine gb_aload_n d_X10_changeWeight_39 rfl ?_
      refine gb_getr (r := 1) f_X10_14 (hS 0 _ rfl) rfl d_X10_changeWeight_40 ?_
      refine gb_iload_n d_X10_changeWeight_43 rfl ?_
      refine gb_iconst 2 d_X10_changeWeight_44 rfl ?_
      obtain ⟨r7, e8, h⟩ := gb_bd_e h
      refine gb_cVi (As := [.int x1, .int 2]) (rest := []) m_X10_136 (t_X0_read (Γ := Γ) hS (ok_X0_1 hS) e8) (ok_X0_1 hS).1 rfl (Nat.le_of_ble_eq_true rfl) rfl rfl (Nat.le_of_ble_eq_true rfl) d_X10_changeWeight_45 ?_
      refine gb_istore_n [(3, .int r7.2), (0, .ref 0), (1, .int x1), (2, .int x2)] d_X10_changeWeight_48 (Nat.le_of_ble_eq_true rfl) rfl ?_
      refine gb_aload_n d_X10_changeWeight_49 rfl ?_
      refine gb_getr (r := 1) f_X10_14 (hS 0 _ rfl) rfl d_X10_changeWeight_50 ?_
      refine gb_iload_n d_X10_changeWeight_53 rfl ?_
      refine gb_iconst 2 d_X10_changeWeight_54 rfl ?_
      refine gb_iload_n d_X10_changeWeight_55 rfl ?_
      obtain ⟨r9, e10, h⟩ := gb_bd_e h
      refine gb_cVv (As := [.int x1, .int 2, .int x2]) (rest := []) m_X10_153 (t_X0_write (Γ := Γ) hS (ok_X0_1 hS) e10) (ok_X0_1 hS).1 rfl (Nat.le_of_ble_eq_true rfl) rfl rfl (Nat.le_of_ble_eq_true rfl) d_X10_changeWeight_56 ?_
      refine gb_iload_n d_X10_changeWeight_59 rfl ?_
      cases h
      exact gb_iret d_X10_changeWeight_60 rfl ⟨rfl, rfl, rfl⟩
    · have h := gb_it hc h
      refine gb_bipush (-2) d_X10_changeWeight_23 rfl ?_
      cases h
      exact gb_iret d_X10_changeWeight_25 rfl ⟨rfl, rfl, rfl⟩
  · have h := gb_it hc h
    refine gb_iconst (-1) d_X10_changeWeight_10 rfl ?_
    cases h
    exact gb_iret d_X10_changeWeight_11 rfl ⟨rfl, rfl, rfl⟩
-- X10_fillOrderWords
noncomputable def f_X10_fillOrderWords_30 (sh : List gb_Sh) : Nat → gb_G → Int32 → Option (gb_G)
  | 0, _, _ => none
  | n + 1, g, y2 => if 8 ≤ y2 then (if (g.1 46 7) = 0 then (some g) else (gb_bd (f_X0_lawInForce sh g 1) (fun r5 => gb_bd (f_X1_load sh r5.1 1 r5.2) (fun r7 => gb_bd (f_X1_hundredths sh r7) (fun r9 => gb_let (gb_pi r9.1 75 3 r9.2) (fun g11 => some g11)))))) else (gb_bd (f_X0_read sh g 1 y2 1) (fun r12 => gb_ck (5 + y2) 21 (gb_let (gb_pi r12.1 75 ((5 + y2).toNatClampNeg) r12.2) (fun g15 => gb_bd (f_X0_read sh g15 1 y2 2) (fun r16 => gb_ck (13 + y2) 21 (gb_let (gb_pi r16.1 75 ((13 + y2).toNatClampNeg) r16.2) (fun g19 => f_X10_fillOrderWords_30 sh n g19 (y2 + 1))))))))
noncomputable def f_X10_fillOrderWords (sh : List gb_Sh) (g : gb_G) : Option (gb_G) := gb_let (gb_pi g 75 0 (g.1 (1 + 4) 0)) (fun g1 => gb_bd (f_X0_lackingCount sh g1 1) (fun r2 => gb_let (gb_pi r2.1 75 4 r2.2) (fun g4 => f_X10_fillOrderWords_30 sh gb_N g4 0)))
set_option maxRecDepth 100000 in
set_option maxHeartbeats 4000000 in
theorem t_X10_fillOrderWords_30 {Γ : gb_X} {sh : List gb_Sh} {out : gb_G} (hS : gb_S sh) : ∀ (n : Nat) (g : gb_G) (y2 : Int32), f_X10_fillOrderWords_30 sh n g y2 = some out → gb_J Γ M_X10_fillOrderWords 4 (gb_Rv sh out) 0 0 sh g 30 [(0, .ref 0), (1, .ref 46), (2, .int y2)] [] := by
  intro n
  induction n with
  | zero => intro g y2 h; cases h
  | succ n ih =>
    intro g y2 h
    rw [f_X10_fillOrderWords_30] at h
    refine gb_iload_n d_X10_fillOrderWords_30 rfl ?_
    refine gb_bipush 8 d_X10_fillOrderWords_31 rfl ?_
    refine gb_icmp_ge 77 d_X10_fillOrderWords_33 (by decide) (fun hc => ?_) (fun hc => ?_)
    · have h := gb_it hc h
      refine gb_aload_n d_X10_fillOrderWords_77 rfl ?_
      refine gb_geti f_X10_248 (ok_X7_46 hS).1 rfl d_X10_fillOrderWords_78 ?_
      refine gb_if_eq 115 d_X10_fillOrderWords_81 (by decide) (fun hc => ?_) (fun hc => ?_)
      · have h := gb_it hc h
        cases h
        exact gb_vret d_X10_fillOrderWords_115 rfl ⟨rfl, rfl, rfl⟩
      · have h := gb_if hc h
        refine gb_aload_n d_X10_fillOrderWords_84 rfl ?_
        refine gb_getr (r := 57) f_X10_79 (hS 0 _ rfl) rfl d_X10_fillOrderWords_85 ?_
        refine gb_aload_n d_X10_fillOrderWords_88 rfl ?_
        refine gb_getr (r := 1) f_X10_14 (hS 0 _ rfl) rfl d_X10_fillOrderWords_89 ?_
        refine gb_aload_n d_X10_fillOrderWords_92 rfl ?_
        refine gb_getr (r := 1) f_X10_14 (hS 0 _ rfl) rfl d_X10_fillOrderWords_93 ?_
        obtain ⟨r5, e6, h⟩ := gb_bd_e h
        refine gb_cVq (As := []) (rest := [.ref 1, .ref 57]) m_X10_145 (t_X0_lawInForce (Γ := Γ) hS (ok_X0_1 hS) e6) (ok_X0_1 hS).1 rfl (Nat.le_of_ble_eq_true rfl) rfl rfl (Nat.le_of_ble_eq_true rfl) d_X10_fillOrderWords_96 ?_
        obtain ⟨r7, e8, h⟩ := gb_bd_e h
        refine gb_cVv (As := [.ref 1, va_rf r5.2]) (rest := []) m_X10_252 (t_X1_load (Γ := Γ) hS (ok_X0_1 hS) e8) (hS 57 _ rfl) rfl (Nat.le_of_ble_eq_true rfl) rfl rfl (Nat.le_of_ble_eq_true rfl) d_X10_fillOrderWords_99 ?_
        refine gb_aload_n d_X10_fillOrderWords_102 rfl ?_
        refine gb_getr (r := 75) f_X10_92 (hS 0 _ rfl) rfl d_X10_fillOrderWords_103 ?_
        refine gb_iconst 3 d_X10_fillOrderWords_106 rfl ?_
        refine gb_aload_n d_X10_fillOrderWords_107 rfl ?_
        refine gb_getr (r := 57) f_X10_79 (hS 0 _ rfl) rfl d_X10_fillOrderWords_108 ?_
        obtain ⟨r9, e10, h⟩ := gb_bd_e h
        refine gb_cVi (As := []) (rest := [.int 3, .ref 75]) m_X10_256 (t_X1_hundredths (Γ := Γ) hS e10) (hS 57 _ rfl) rfl (Nat.le_of_ble_eq_true rfl) rfl rfl (Nat.le_of_ble_eq_true rfl) d_X10_fillOrderWords_111 ?_
        refine gb_iast_ 3 rfl (hS 75 _ rfl) (by unfold vp_in; decide) d_X10_fillOrderWords_114 ?_
        have h := gb_let_e h
        generalize gb_pi r9.1 75 3 r9.2 = g11 at h ⊢
        cases h
        exact gb_vret d_X10_fillOrderWords_115 rfl ⟨rfl, rfl, rfl⟩
    · have h := gb_if hc h
      refine gb_aload_n d_X10_fillOrderWords_36 rfl ?_
      refine gb_getr (r := 75) f_X10_92 (hS 0 _ rfl) rfl d_X10_fillOrderWords_37 ?_
      refine gb_iconst 5 d_X10_fillOrderWords_40 rfl ?_
      refine gb_iload_n d_X10_fillOrderWords_41 rfl ?_
      refine gb_iadd d_X10_fillOrderWords_42 ?_
      refine gb_aload_n d_X10_fillOrderWords_43 rfl ?_
      refine gb_getr (r := 1) f_X10_14 (hS 0 _ rfl) rfl d_X10_fillOrderWords_44 ?_
      refine gb_iload_n d_X10_fillOrderWords_47 rfl ?_
      refine gb_iconst 1 d_X10_fillOrderWords_48 rfl ?_
      obtain ⟨r12, e13, h⟩ := gb_bd_e h
      refine gb_cVi (As := [.int y2, .int 1]) (rest := [.int (5 + y2), .ref 75]) m_X10_136 (t_X0_read (Γ := Γ) hS (ok_X0_1 hS) e13) (ok_X0_1 hS).1 rfl (Nat.le_of_ble_eq_true rfl) rfl rfl (Nat.le_of_ble_eq_true rfl) d_X10_fillOrderWords_49 ?_
      obtain ⟨hi14, h⟩ := gb_ck_e h
      refine gb_iast_ ((5 + y2).toNatClampNeg) rfl (hS 75 _ rfl) hi14 d_X10_fillOrderWords_52 ?_
      have h := gb_let_e h
      generalize gb_pi r12.1 75 ((5 + y2).toNatClampNeg) r12.2 = g15 at h ⊢
      refine gb_aload_n d_X10_fillOrderWords_53 rfl ?_
      refine gb_getr (r := 75) f_X10_92 (hS 0 _ rfl) rfl d_X10_fillOrderWords_54 ?_
      refine gb_bipush 13 d_X10_fillOrderWords_57 rfl ?_
      refine gb_iload_n d_X10_fillOrderWords_59 rfl ?_
      refine gb_iadd d_X10_fillOrderWords_60 ?_
      refine gb_aload_n d_X10_fillOrderWords_61 rfl ?_
      refine gb_getr (r := 1) f_X10_14 (hS 0 _ rfl) rfl d_X10_fillOrderWords_62 ?_
      refine gb_iload_n d_X10_fillOrderWords_65 rfl ?_
      refine gb_iconst 2 d_X10_fillOrderWords_66 rfl ?_
      obtain ⟨r16, e17, h⟩ := gb_bd_e h
      refine gb_cVi (As := [.int y2, .int 2]) (rest := [.int (13 + y2), .ref 75]) m_X10_136 (t_X0_read (Γ := Γ) hS (ok_X0_1 hS) e17) (ok_X0_1 hS).1 rfl (Nat.le_of_ble_eq_true rfl) rfl rfl (Nat.le_of_ble_eq_true rfl) d_X10_fillOrderWords_67 ?_
      obtain ⟨hi18, h⟩ := gb_ck_e h
      refine gb_iast_ ((13 + y2).toNatClampNeg) rfl (hS 75 _ rfl) hi18 d_X10_fillOrderWords_70 ?_
      have h := gb_let_e h
      generalize gb_pi r16.1 75 ((13 + y2).toNatClampNeg) r16.2 = g19 at h ⊢
      refine gb_iinc (y2 + 1) [(2, .int (y2 + 1)), (0, .ref 0), (1, .ref 46)] d_X10_fillOrderWords_71 (Nat.le_of_ble_eq_true rfl) rfl rfl rfl ?_
      refine gb_goto 30 d_X10_fillOrderWords_74 (by decide) ?_
      refine gb_pick (lv' := [(0, .ref 0), (1, .ref 46), (2, .int (y2 + 1))]) [1, 2, 0] rfl ?_
      exact ih _ (y2 + 1) h
set_option maxRecDepth 100000 in
set_option maxHeartbeats 4000000 in
theorem t_X10_fillOrderWords {Γ : gb_X} {sh : List gb_Sh} {out : gb_G} (hS : gb_S sh) {g : gb_G} (h : f_X10_fillOrderWords sh g = some out) : gb_C Γ M_X10_fillOrderWords 4 0 0 sh g [.ref 0, .ref 46] (gb_Rv sh out) := by
  refine gb_C.of rfl (Nat.le_of_ble_eq_true rfl) ?_
  refine gb_pick (lv' := [(0, .ref 0), (1, .ref 46)]) [0, 1] rfl ?_
  unfold f_X10_fillOrderWords at h
  refine gb_aload_n d_X10_fillOrderWords_0 rfl ?_
  refine gb_getr (r := 75) f_X10_92 (hS 0 _ rfl) rfl d_X10_fillOrderWords_1 ?_
  refine gb_iconst 0 d_X10_fillOrderWords_4 rfl ?_
  refine gb_aload_n d_X10_fillOrderWords_5 rfl ?_
  refine gb_getr (r := 1) f_X10_14 (hS 0 _ rfl) rfl d_X10_fillOrderWords_6 ?_
  refine gb_getr (r := (1 + 4)) f_X10_169 (ok_X0_1 hS).1 rfl d_X10_fillOrderWords_9 ?_
  refine gb_iconst 0 d_X10_fillOrderWords_12 rfl ?_
  refine gb_iald_ 0 rfl (ok_X0_1 hS).2.2.2.2.1 (by unfold vp_in; decide) d_X10_fillOrderWords_13 ?_
  refine gb_iast_ 0 rfl (hS 75 _ rfl) (by unfold vp_in; decide) d_X10_fillOrderWords_14 ?_
  have h := gb_let_e h
  generalize gb_pi g 75 0 (g.1 (1 + 4) 0) = g1 at h ⊢
  refine gb_aload_n d_X10_fillOrderWords_15 rfl ?_
  refine gb_getr (r := 75) f_X10_92 (hS 0 _ rfl) rfl d_X10_fillOrderWords_16 ?_
  refine gb_iconst 4 d_X10_fillOrderWords_19 rfl ?_
  refine gb_aload_n d_X10_fillOrderWords_20 rfl ?_
  refine gb_getr (r := 1) f_X10_14 (hS 0 _ rfl) rfl d_X10_fillOrderWords_21 ?_
  obtain ⟨r2, e3, h⟩ := gb_bd_e h
  refine gb_cVi (As := []) (rest := [.int 4, .ref 75]) m_X10_245 (t_X0_lackingCount (Γ := Γ) hS (ok_X0_1 hS) e3) (ok_X0_1 hS).1 rfl (Nat.le_of_ble_eq_true rfl) rfl rfl (Nat.le_of_ble_eq_true rfl) d_X10_fillOrderWords_24 ?_
  refine gb_iast_ 4 rfl (hS 75 _ rfl) (by unfold vp_in; decide) d_X10_fillOrderWords_27 ?_
  have h := gb_let_e h
  generalize gb_pi r2.1 75 4 r2.2 = g4 at h ⊢
  refine gb_iconst 0 d_X10_fillOrderWords_28 rfl ?_
  refine gb_istore_n [(2, .int 0), (0, .ref 0), (1, .ref 46)] d_X10_fillOrderWords_29 (Nat.le_of_ble_eq_true rfl) rfl ?_
  refine gb_pick (lv' := [(0, .ref 0), (1, .ref 46), (2, .int 0)]) [1, 2, 0] rfl ?_
  exact t_X10_fillOrderWords_30 hS  gb_N _ 0 h
-- X10_passMonth
noncomputable def f_X10_passMonth (sh : List gb_Sh) (g : gb_G) : Option (gb_G × Int32) := if (g.1 (1 + 4) 0) < 999 then (gb_bd (f_X3_remember sh g 33 3 (-1) 1) (fun r1 => gb_bd (f_X4_moveAll sh r1 1) (fun r3 => some (r3, (r3.1 (1 + 4) 0))))) else (some (g, (-3)))
set_option maxRecDepth 100000 in
set_option maxHeartbeats 4000000 in
theorem t_X10_passMonth {Γ : gb_X} {sh : List gb_Sh} {out : gb_G × Int32} (hS : gb_S sh) {g : gb_G} (h : f_X10_passMonth sh g = some out) : gb_C Γ M_X10_passMonth 4 0 0 sh g [.ref 0] (gb_Ri sh out) := by
  refine gb_C.of rfl (Nat.le_of_ble_eq_true rfl) ?_
  refine gb_pick (lv' := [(0, .ref 0)]) [0] rfl ?_
  unfold f_X10_passMonth at h
  refine gb_aload_n d_X10_passMonth_0 rfl ?_
  refine gb_getr (r := 1) f_X10_14 (hS 0 _ rfl) rfl d_X10_passMonth_1 ?_
  refine gb_getr (r := (1 + 4)) f_X10_169 (ok_X0_1 hS).1 rfl d_X10_passMonth_4 ?_
  refine gb_iconst 0 d_X10_passMonth_7 rfl ?_
  refine gb_iald_ 0 rfl (ok_X0_1 hS).2.2.2.2.1 (by unfold vp_in; decide) d_X10_passMonth_8 ?_
  refine gb_sipush 999 d_X10_passMonth_9 rfl ?_
  refine gb_icmp_lt 18 d_X10_passMonth_12 (by decide) (fun hc => ?_) (fun hc => ?_)
  · have h := gb_it hc h
    refine gb_aload_n d_X10_passMonth_18 rfl ?_
    refine gb_getr (r := 33) f_X10_35 (hS 0 _ rfl) rfl d_X10_passMonth_19 ?_
    refine gb_iconst 3 d_X10_passMonth_22 rfl ?_
    refine gb_iconst (-1) d_X10_passMonth_23 rfl ?_
    refine gb_aload_n d_X10_passMonth_24 rfl ?_
    refine gb_getr (r := 1) f_X10_14 (hS 0 _ rfl) rfl d_X10_passMonth_25 ?_
    obtain ⟨r1, e2, h⟩ := gb_bd_e h
    refine gb_cVv (As := [.int 3, .int (-1), .ref 1]) (rest := []) m_X10_259 (t_X3_remember (Γ := Γ) hS (ok_X3_33 hS) (ok_X0_1 hS) e2) (ok_X3_33 hS).1 rfl (Nat.le_of_ble_eq_true rfl) rfl rfl (Nat.le_of_ble_eq_true rfl) d_X10_passMonth_28 ?_
    refine gb_aload_n d_X10_passMonth_31 rfl ?_
    refine gb_getr (r := 54) f_X10_70 (hS 0 _ rfl) rfl d_X10_passMonth_32 ?_
    refine gb_aload_n d_X10_passMonth_35 rfl ?_
    refine gb_getr (r := 1) f_X10_14 (hS 0 _ rfl) rfl d_X10_passMonth_36 ?_
    obtain ⟨r3, e4, h⟩ := gb_bd_e h
    refine gb_cVv (As := [.ref 1]) (rest := []) m_X10_263 (t_X4_moveAll (Γ := Γ) hS (ok_X0_1 hS) e4) (hS 54 _ rfl) rfl (Nat.le_of_ble_eq_true rfl) rfl rfl (Nat.le_of_ble_eq_true rfl) d_X10_passMonth_39 ?_
    refine gb_aload_n d_X10_passMonth_42 rfl ?_
    refine gb_getr (r := 1) f_X10_14 (hS 0 _ rfl) rfl d_X10_passMonth_43 ?_
    refine gb_getr (r := (1 + 4)) f_X10_169 (ok_X0_1 hS).1 rfl d_X10_passMonth_46 ?_
    refine gb_iconst 0 d_X10_passMonth_49 rfl ?_
    refine gb_iald_ 0 rfl (ok_X0_1 hS).2.2.2.2.1 (by unfold vp_in; decide) d_X10_passMonth_50 ?_
    cases h
    exact gb_iret d_X10_passMonth_51 rfl ⟨rfl, rfl, rfl⟩
  · have h := gb_if hc h
    refine gb_bipush (-3) d_X10_passMonth_15 rfl ?_
    cases h
    exact gb_iret d_X10_passMonth_17 rfl ⟨rfl, rfl, rfl⟩
-- X10_runOnce
noncomputable def f_X10_runOnce_169 (sh : List gb_Sh) (g : gb_G)  : Option (gb_G × Int32) := gb_let (gb_pi g 75 1 ((g.1 75 1) + 1)) (fun g14 => some (g14, 1))
noncomputable def f_X10_runOnce_144 (sh : List gb_Sh) (g : gb_G) (y2 : Int32) (y5 : Int32) : Option (gb_G × Int32) := if 0 ≤ y5 then (gb_ck y2 (gb_ln sh (46 + 3)) (if (g.1 (46 + 3) y2.toNatClampNeg) = 2 then (gb_let (gb_pi g 75 2 y5) (fun g15 => f_X10_runOnce_169 sh g15 )) else (f_X10_runOnce_169 sh g ))) else (some (g, 0))
noncomputable def f_X10_runOnce (sh : List gb_Sh) (g : gb_G) (x2 : Int32) : Option (gb_G × Int32) := gb_bd (f_X10_fillOrderWords sh g) (fun r1 => gb_bd (f_X5_run sh r1 46 x2 2 75 21) (fun r3 => if r3.2 = 1 then (gb_bd (f_X5_run sh r3.1 46 x2 0 75 21) (fun r5 => gb_bd (f_X5_run sh r5.1 46 x2 1 75 21) (fun r7 => if r5.2 = (-2147483648) then (some (r7.1, 0)) else (if r7.2 = (-2147483648) then (some (r7.1, 0)) else (gb_ck x2 (gb_ln sh (46 + 3)) (if (r7.1.1 (46 + 3) x2.toNatClampNeg) = 0 then (gb_bd (f_X10_changeLacking sh r7.1 r5.2 1) (fun r11 => f_X10_runOnce_144 sh r11.1 x2 r11.2)) else if (r7.1.1 (46 + 3) x2.toNatClampNeg) = 1 then (gb_bd (f_X10_changeLacking sh r7.1 r5.2 0) (fun r17 => f_X10_runOnce_144 sh r17.1 x2 r17.2)) else if (r7.1.1 (46 + 3) x2.toNatClampNeg) = 2 then (gb_bd (f_X10_changeWeight sh r7.1 r5.2 r7.2) (fun r20 => f_X10_runOnce_144 sh r20.1 x2 r20.2)) else (gb_bd (f_X10_passMonth sh r7.1) (fun r22 => f_X10_runOnce_144 sh r22.1 x2 r22.2)))))))) else (some (r3.1, 1))))
set_option maxRecDepth 100000 in
set_option maxHeartbeats 4000000 in
theorem t_X10_runOnce_169 {Γ : gb_X} {sh : List gb_Sh} {out : gb_G × Int32} (hS : gb_S sh) : ∀ (g : gb_G) , f_X10_runOnce_169 sh g  = some out → gb_J Γ M_X10_runOnce 5 (gb_Ri sh out) 0 0 sh g 169 [(0, .ref 0)] [] := by
  intro g  h
  unfold f_X10_runOnce_169 at h
  refine gb_aload_n d_X10_runOnce_169 rfl ?_
  refine gb_getr (r := 75) f_X10_92 (hS 0 _ rfl) rfl d_X10_runOnce_170 ?_
  refine gb_iconst 1 d_X10_runOnce_173 rfl ?_
  refine gb_dup2 d_X10_runOnce_174 rfl rfl ?_
  refine gb_iald_ 1 rfl (hS 75 _ rfl) (by unfold vp_in; decide) d_X10_runOnce_175 ?_
  refine gb_iconst 1 d_X10_runOnce_176 rfl ?_
  refine gb_iadd d_X10_runOnce_177 ?_
  refine gb_iast_ 1 rfl (hS 75 _ rfl) (by unfold vp_in; decide) d_X10_runOnce_178 ?_
  have h := gb_let_e h
  generalize gb_pi g 75 1 ((g.1 75 1) + 1) = g14 at h ⊢
  refine gb_iconst 1 d_X10_runOnce_179 rfl ?_
  cases h
  exact gb_zret d_X10_runOnce_180 rfl rfl ⟨rfl, rfl, rfl⟩
set_option maxRecDepth 100000 in
set_option maxHeartbeats 4000000 in
theorem t_X10_runOnce_144 {Γ : gb_X} {sh : List gb_Sh} {out : gb_G × Int32} (hS : gb_S sh) : ∀ (g : gb_G) (y2 : Int32) (y5 : Int32), f_X10_runOnce_144 sh g y2 y5 = some out → gb_J Γ M_X10_runOnce 5 (gb_Ri sh out) 0 0 sh g 144 [(0, .ref 0), (1, .ref 46), (2, .int y2), (5, .int y5)] [] := by
  intro g y2 y5 h
  unfold f_X10_runOnce_144 at h
  refine gb_iload d_X10_runOnce_144 rfl ?_
  refine gb_if_ge 151 d_X10_runOnce_146 (by decide) (fun hc => ?_) (fun hc => ?_)
  · have h := gb_it hc h
    refine gb_aload_n d_X10_runOnce_151 rfl ?_
    refine gb_getr (r := (46 + 3)) f_X10_232 (ok_X7_46 hS).1 rfl d_X10_runOnce_152 ?_
    refine gb_iload_n d_X10_runOnce_155 rfl ?_
    obtain ⟨hi13, h⟩ := gb_ck_e h
    refine gb_iald_ y2.toNatClampNeg rfl (ok_X7_46 hS).2.2.2.1 hi13 d_X10_runOnce_156 ?_
    refine gb_iconst 2 d_X10_runOnce_157 rfl ?_
    refine gb_icmp_ne 169 d_X10_runOnce_158 (by decide) (fun hc => ?_) (fun hc => ?_)
    · have h := gb_if hc h
      refine gb_pick (lv' := [(0, .ref 0)]) [0] rfl ?_
      exact t_X10_runOnce_169 hS  _  h
    · have h := gb_it hc h
      refine gb_aload_n d_X10_runOnce_161 rfl ?_
      refine gb_getr (r := 75) f_X10_92 (hS 0 _ rfl) rfl d_X10_runOnce_162 ?_
      refine gb_iconst 2 d_X10_runOnce_165 rfl ?_
      refine gb_iload d_X10_runOnce_166 rfl ?_
      refine gb_iast_ 2 rfl (hS 75 _ rfl) (by unfold vp_in; decide) d_X10_runOnce_168 ?_
      have h := gb_let_e h
      generalize gb_pi g 75 2 y5 = g15 at h ⊢
      refine gb_pick (lv' := [(0, .ref 0)]) [0] rfl ?_
      exact t_X10_runOnce_169 hS  _  h
  · have h := gb_if hc h
    refine gb_iconst 0 d_X10_runOnce_149 rfl ?_
    cases h
    exact gb_zret d_X10_runOnce_150 rfl rfl ⟨rfl, rfl, rfl⟩
set_option maxRecDepth 100000 in
set_option maxHeartbeats 4000000 in
theorem t_X10_runOnce {Γ : gb_X} {sh : List gb_Sh} {x2 : Int32} {out : gb_G × Int32} (hS : gb_S sh) {g : gb_G} (h : f_X10_runOnce sh g x2 = some out) : gb_C Γ M_X10_runOnce 5 0 0 sh g [.ref 0, .ref 46, .int x2] (gb_Ri sh out) := by
  refine gb_C.of rfl (Nat.le_of_ble_eq_true rfl) ?_
  refine gb_pick (lv' := [(0, .ref 0), (1, .ref 46), (2, .int x2)]) [0, 1, 2] rfl ?_
  unfold f_X10_runOnce at h
  refine gb_aload_n d_X10_runOnce_0 rfl ?_
  refine gb_aload_n d_X10_runOnce_1 rfl ?_
  obtain ⟨r1, e2, h⟩ := gb_bd_e h
  refine gb_cVv (As := [.ref 46]) (rest := []) m_X10_224 (t_X10_fillOrderWords (Γ := Γ) hS e2) (hS 0 _ rfl) rfl (Nat.le_of_ble_eq_true rfl) rfl rfl (Nat.le_of_ble_eq_true rfl) d_X10_runOnce_2 ?_
  refine gb_aload_n d_X10_runOnce_5 rfl ?_
  refine gb_getr (r := 52) f_X10_61 (hS 0 _ rfl) rfl d_X10_runOnce_6 ?_
  refine gb_aload_n d_X10_runOnce_9 rfl ?_
  refine gb_iload_n d_X10_runOnce_10 rfl ?_
  refine gb_iconst 2 d_X10_runOnce_11 rfl ?_
  refine gb_aload_n d_X10_runOnce_12 rfl ?_
  refine gb_getr (r := 75) f_X10_92 (hS 0 _ rfl) rfl d_X10_runOnce_13 ?_
  obtain ⟨r3, e4, h⟩ := gb_bd_e h
  refine gb_cVi (As := [.ref 46, .int x2, .int 2, .ref 75]) (rest := []) m_X10_227 (t_X5_run (Γ := Γ) hS (ok_X7_46 hS) (hS 75 _ rfl) e4) (hS 52 _ rfl) rfl (Nat.le_of_ble_eq_true rfl) rfl rfl (Nat.le_of_ble_eq_true rfl) d_X10_runOnce_16 ?_
  refine gb_iconst 1 d_X10_runOnce_19 rfl ?_
  refine gb_icmp_eq 25 d_X10_runOnce_20 (by decide) (fun hc => ?_) (fun hc => ?_)
  · have h := gb_it hc h
    refine gb_aload_n d_X10_runOnce_25 rfl ?_
    refine gb_getr (r := 52) f_X10_61 (hS 0 _ rfl) rfl d_X10_runOnce_26 ?_
    refine gb_aload_n d_X10_runOnce_29 rfl ?_
    refine gb_iload_n d_X10_runOnce_30 rfl ?_
    refine gb_iconst 0 d_X10_runOnce_31 rfl ?_
    refine gb_aload_n d_X10_runOnce_32 rfl ?_
    refine gb_getr (r := 75) f_X10_92 (hS 0 _ rfl) rfl d_X10_runOnce_33 ?_
    obtain ⟨r5, e6, h⟩ := gb_bd_e h
    refine gb_cVi (As := [.ref 46, .int x2, .int 0, .ref 75]) (rest := []) m_X10_227 (t_X5_run (Γ := Γ) hS (ok_X7_46 hS) (hS 75 _ rfl) e6) (hS 52 _ rfl) rfl (Nat.le_of_ble_eq_true rfl) rfl rfl (Nat.le_of_ble_eq_true rfl) d_X10_runOnce_36 ?_
    refine gb_istore_n [(3, .int r5.2), (0, .ref 0), (1, .ref 46), (2, .int x2)] d_X10_runOnce_39 (Nat.le_of_ble_eq_true rfl) rfl ?_
    refine gb_aload_n d_X10_runOnce_40 rfl ?_
    refine gb_getr (r := 52) f_X10_61 (hS 0 _ rfl) rfl d_X10_runOnce_41 ?_
    refine gb_aload_n d_X10_runOnce_44 rfl ?_
    refine gb_iload_n d_X10_runOnce_45 rfl ?_
    refine gb_iconst 1 d_X10_runOnce_46 rfl ?_
    refine gb_aload_n d_X10_runOnce_47 rfl ?_
    refine gb_getr (r := 75) f_X10_92 (hS 0 _ rfl) rfl d_X10_runOnce_48 ?_
    obtain ⟨r7, e8, h⟩ := gb_bd_e h
    refine gb_cVi (As := [.ref 46, .int x2, .int 1, .ref 75]) (rest := []) m_X10_227 (t_X5_run (Γ := Γ) hS (ok_X7_46 hS) (hS 75 _ rfl) e8) (hS 52 _ rfl) rfl (Nat.le_of_ble_eq_true rfl) rfl rfl (Nat.le_of_ble_eq_true rfl) d_X10_runOnce_51 ?_
    refine gb_istore [(4, .int r7.2), (3, .int r5.2), (0, .ref 0), (1, .ref 46), (2, .int x2)] d_X10_runOnce_54 (Nat.le_of_ble_eq_true rfl) rfl ?_
    refine gb_iload_n d_X10_runOnce_56 rfl ?_
    refine gb_ldc (-2147483648) k_X10_231 d_X10_runOnce_57 ?_
    refine gb_icmp_eq 69 d_X10_runOnce_59 (by decide) (fun hc => ?_) (fun hc => ?_)
    · have h := gb_it hc h
      refine gb_iconst 0 d_X10_runOnce_69 rfl ?_
      cases h
      exact gb_zret d_X10_runOnce_70 rfl rfl ⟨rfl, rfl, rfl⟩
    · have h := gb_if hc h
      refine gb_iload d_X10_runOnce_62 rfl ?_
      refine gb_ldc (-2147483648) k_X10_231 d_X10_runOnce_64 ?_
      refine gb_icmp_ne 71 d_X10_runOnce_66 (by decide) (fun hc => ?_) (fun hc => ?_)
      · have h := gb_if hc h
        refine gb_aload_n d_X10_runOnce_71 rfl ?_
        refine gb_getr (r := (46 + 3)) f_X10_232 (ok_X7_46 hS).1 rfl d_X10_runOnce_72 ?_
        refine gb_iload_n d_X10_runOnce_75 rfl ?_
        obtain ⟨hi9, h⟩ := gb_ck_e h
        refine gb_iald_ x2.toNatClampNeg rfl (ok_X7_46 hS).2.2.2.1 hi9 d_X10_runOnce_76 ?_
        by_cases hc10 : (r7.1.1 (46 + 3) x2.toNatClampNeg) = 0
        · have h := gb_it hc10 h
          refine gb_tabI 104 hc10 d_X10_runOnce_77 (by decide) (by decide) rfl (by decide) ?_
          refine gb_aload_n d_X10_runOnce_104 rfl ?_
          refine gb_iload_n d_X10_runOnce_105 rfl ?_
          refine gb_iconst 1 d_X10_runOnce_106 rfl ?_
          obtain ⟨r11, e12, h⟩ := gb_bd_e h
          refine gb_cVi (As := [.int r5.2, .int 1]) (rest := []) m_X10_235 (t_X10_changeLacking (Γ := Γ) hS e12) (hS 0 _ rfl) rfl (Nat.le_of_ble_eq_true rfl) rfl rfl (Nat.le_of_ble_eq_true rfl) d_X10_runOnce_107 ?_
          refine gb_istore [(5, .int r11.2), (4, .int r7.2), (3, .int r5.2), (0, .ref 0), (1, .ref 46), (2, .int x2)] d_X10_runOnce_110 (Nat.le_of_ble_eq_true rfl) rfl ?_
          refine gb_goto 144 d_X10_runOnce_112 (by decide) ?_
          refine gb_pick (lv' := [(0, .ref 0), (1, .ref 46), (2, .int x2), (5, .int r11.2)]) [3, 4, 5, 0] rfl ?_
          exact t_X10_runOnce_144 hS  _ x2 r11.2 h
        replace h := gb_if hc10 h
        by_cases hc16 : (r7.1.1 (46 + 3) x2.toNatClampNeg) = 1
        · have h := gb_it hc16 h
          refine gb_tabI 115 hc16 d_X10_runOnce_77 (by decide) (by decide) rfl (by decide) ?_
          refine gb_aload_n d_X10_runOnce_115 rfl ?_
          refine gb_iload_n d_X10_runOnce_116 rfl ?_
          refine gb_iconst 0 d_X10_runOnce_117 rfl ?_
          obtain ⟨r17, e18, h⟩ := gb_bd_e h
          refine gb_cVi (As := [.int r5.2, .int 0]) (rest := []) m_X10_235 (t_X10_changeLacking (Γ := Γ) hS e18) (hS 0 _ rfl) rfl (Nat.le_of_ble_eq_true rfl) rfl rfl (Nat.le_of_ble_eq_true rfl) d_X10_runOnce_118 ?_
          refine gb_istore [(5, .int r17.2), (4, .int r7.2), (3, .int r5.2), (0, .ref 0), (1, .ref 46), (2, .int x2)] d_X10_runOnce_121 (Nat.le_of_ble_eq_true rfl) rfl ?_
          refine gb_goto 144 d_X10_runOnce_123 (by decide) ?_
          refine gb_pick (lv' := [(0, .ref 0), (1, .ref 46), (2, .int x2), (5, .int r17.2)]) [3, 4, 5, 0] rfl ?_
          exact t_X10_runOnce_144 hS  _ x2 r17.2 h
        replace h := gb_if hc16 h
        by_cases hc19 : (r7.1.1 (46 + 3) x2.toNatClampNeg) = 2
        · have h := gb_it hc19 h
          refine gb_tabI 126 hc19 d_X10_runOnce_77 (by decide) (by decide) rfl (by decide) ?_
          refine gb_aload_n d_X10_runOnce_126 rfl ?_
          refine gb_iload_n d_X10_runOnce_127 rfl ?_
          refine gb_iload d_X10_runOnce_128 rfl ?_
          obtain ⟨r20, e21, h⟩ := gb_bd_e h
          refine gb_cVi (As := [.int r5.2, .int r7.2]) (rest := []) m_X10_238 (t_X10_changeWeight (Γ := Γ) hS e21) (hS 0 _ rfl) rfl (Nat.le_of_ble_eq_true rfl) rfl rfl (Nat.le_of_ble_eq_true rfl) d_X10_runOnce_130 ?_
          refine gb_istore [(5, .int r20.2), (4, .int r7.2), (3, .int r5.2), (0, .ref 0), (1, .ref 46), (2, .int x2)] d_X10_runOnce_133 (Nat.le_of_ble_eq_true rfl) rfl ?_
          refine gb_goto 144 d_X10_runOnce_135 (by decide) ?_
          refine gb_pick (lv' := [(0, .ref 0), (1, .ref 46), (2, .int x2), (5, .int r20.2)]) [3, 4, 5, 0] rfl ?_
          exact t_X10_runOnce_144 hS  _ x2 r20.2 h
        replace h := gb_if hc19 h
        refine gb_tabO 138 d_X10_runOnce_77 (gb_out 3 (by decide) (by decide) (by decide) (fun i hi => match i, hi with | 0, _ => hc10 | 1, _ => hc16 | 2, _ => hc19 | q + 3, h9 => absurd h9 (Nat.not_lt.mpr (Nat.le_add_left _ _)))) (by decide) ?_
        refine gb_aload_n d_X10_runOnce_138 rfl ?_
        obtain ⟨r22, e23, h⟩ := gb_bd_e h
        refine gb_cVi (As := []) (rest := []) m_X10_241 (t_X10_passMonth (Γ := Γ) hS e23) (hS 0 _ rfl) rfl (Nat.le_of_ble_eq_true rfl) rfl rfl (Nat.le_of_ble_eq_true rfl) d_X10_runOnce_139 ?_
        refine gb_istore [(5, .int r22.2), (4, .int r7.2), (3, .int r5.2), (0, .ref 0), (1, .ref 46), (2, .int x2)] d_X10_runOnce_142 (Nat.le_of_ble_eq_true rfl) rfl ?_
        refine gb_pick (lv' := [(0, .ref 0), (1, .ref 46), (2, .int x2), (5, .int r22.2)]) [3, 4, 5, 0] rfl ?_
        exact t_X10_runOnce_144 hS  _ x2 r22.2 h
      · have h := gb_it hc h
        refine gb_iconst 0 d_X10_runOnce_69 rfl ?_
        cases h
        exact gb_zret d_X10_runOnce_70 rfl rfl ⟨rfl, rfl, rfl⟩
  · have h := gb_if hc h
    refine gb_iconst 1 d_X10_runOnce_23 rfl ?_
    cases h
    exact gb_zret d_X10_runOnce_24 rfl rfl ⟨rfl, rfl, rfl⟩
-- X10_orders
noncomputable def f_X10_orders_140 (sh : List gb_Sh) (g : gb_G)  : Option (gb_G × Int32) := if (g.1 0 17) = (-1) then (gb_bd (f_X10_grant sh g (g.1 75 1)) (fun r11 => some (r11.1, r11.2))) else (gb_bd (f_X0_copyFrom sh g 1 7) (fun r13 => gb_bd (f_X3_copyFrom sh r13 33 38) (fun r15 => gb_bd (f_X10_refuse sh r15 (-3)) (fun r17 => some (r17.1, r17.2)))))
noncomputable def f_X10_orders_134 (sh : List gb_Sh) (K78 : gb_G → Int32 → Option (gb_G × Int32)) (g : gb_G) (y2 : Int32) : Option (gb_G × Int32) := K78 g (y2 + 1)
noncomputable def f_X10_orders_128 (sh : List gb_Sh) (K96 : gb_G → Int32 → Int32 → Option (gb_G × Int32)) (g : gb_G) (y2 : Int32) (y3 : Int32) : Option (gb_G × Int32) := K96 g y2 (y3 + 1)
noncomputable def f_X10_orders_96 (sh : List gb_Sh) (K78 : gb_G → Int32 → Option (gb_G × Int32)) : Nat → gb_G → Int32 → Int32 → Option (gb_G × Int32)
  | 0, _, _, _ => none
  | n + 1, g, y2, y3 => gb_ck y2 (gb_ln sh (46 + 4)) (if (g.1 (46 + 4) y2.toNatClampNeg) ≤ y3 then (f_X10_orders_134 sh K78 g y2) else (if (g.1 0 17) = (-1) then (gb_bd (f_X10_runOnce sh g y2) (fun r20 => if r20.2 = 0 then (gb_let (gb_pi r20.1 0 17 y2) (fun g22 => f_X10_orders_128 sh (fun w w0 w1 => f_X10_orders_96 sh K78 n w w0 w1) g22 y2 y3)) else (f_X10_orders_128 sh (fun w w0 w1 => f_X10_orders_96 sh K78 n w w0 w1) r20.1 y2 y3))) else (f_X10_orders_134 sh K78 g y2)))
noncomputable def f_X10_orders_78 (sh : List gb_Sh) : Nat → gb_G → Int32 → Option (gb_G × Int32)
  | 0, _, _ => none
  | n + 1, g, y2 => if (g.1 46 3) ≤ y2 then (f_X10_orders_140 sh g ) else (if (g.1 0 17) = (-1) then (f_X10_orders_96 sh (fun w w0 => f_X10_orders_78 sh n w w0) gb_N g y2 0) else (f_X10_orders_140 sh g ))
noncomputable def f_X10_orders (sh : List gb_Sh) (g : gb_G) : Option (gb_G × Int32) := gb_let (gb_pi g 0 17 (-1)) (fun g1 => gb_bd (f_X8_read sh g1 1) (fun r2 => gb_let (gb_pi r2.1 0 15 r2.2) (fun g4 => if (g4.1 0 15) = (-1) then (gb_bd (f_X0_copyFrom sh g4 7 1) (fun r5 => gb_bd (f_X3_copyFrom sh r5 38 33) (fun r7 => gb_let (gb_pi r7 75 1 0) (fun g9 => gb_let (gb_pi g9 75 2 (-1)) (fun g10 => f_X10_orders_78 sh gb_N g10 0))))) else (gb_bd (f_X10_refuse sh g4 (-6)) (fun r23 => some (r23.1, r23.2))))))
set_option maxRecDepth 100000 in
set_option maxHeartbeats 4000000 in
theorem t_X10_orders_140 {Γ : gb_X} {sh : List gb_Sh} {out : gb_G × Int32} (hS : gb_S sh) : ∀ (g : gb_G) , f_X10_orders_140 sh g  = some out → gb_J Γ M_X10_orders 483 (gb_Ri sh out) 0 0 sh g 140 [(0, .ref 0)] [] := by
  intro g  h
  unfold f_X10_orders_140 at h
  refine gb_aload_n d_X10_orders_140 rfl ?_
  refine gb_geti f_X10_105 (hS 0 _ rfl) rfl d_X10_orders_141 ?_
  refine gb_iconst (-1) d_X10_orders_144 rfl ?_
  refine gb_icmp_eq 177 d_X10_orders_145 (by decide) (fun hc => ?_) (fun hc => ?_)
  · have h := gb_it hc h
    refine gb_aload_n d_X10_orders_177 rfl ?_
    refine gb_aload_n d_X10_orders_178 rfl ?_
    refine gb_getr (r := 75) f_X10_92 (hS 0 _ rfl) rfl d_X10_orders_179 ?_
    refine gb_iconst 1 d_X10_orders_182 rfl ?_
    refine gb_iald_ 1 rfl (hS 75 _ rfl) (by unfold vp_in; decide) d_X10_orders_183 ?_
    obtain ⟨r11, e12, h⟩ := gb_bd_e h
    refine gb_cVi (As := [.int (g.1 75 1)]) (rest := []) m_X10_133 (t_X10_grant (Γ := Γ) hS e12) (hS 0 _ rfl) rfl (Nat.le_of_ble_eq_true rfl) rfl rfl (Nat.le_of_ble_eq_true rfl) d_X10_orders_184 ?_
    cases h
    exact gb_iret d_X10_orders_187 rfl ⟨rfl, rfl, rfl⟩
  · have h := gb_if hc h
    refine gb_aload_n d_X10_orders_148 rfl ?_
    refine gb_getr (r := 1) f_X10_14 (hS 0 _ rfl) rfl d_X10_orders_149 ?_
    refine gb_aload_n d_X10_orders_152 rfl ?_
    refine gb_getr (r := 7) f_X10_18 (hS 0 _ rfl) rfl d_X10_orders_153 ?_
    obtain ⟨r13, e14, h⟩ := gb_bd_e h
    refine gb_cVv (As := [.ref 7]) (rest := []) m_X10_204 (t_X0_copyFrom (Γ := Γ) hS (ok_X0_1 hS) (ok_X0_7 hS) e14) (ok_X0_1 hS).1 rfl (Nat.le_of_ble_eq_true rfl) rfl rfl (Nat.le_of_ble_eq_true rfl) d_X10_orders_156 ?_
    refine gb_aload_n d_X10_orders_159 rfl ?_
    refine gb_getr (r := 33) f_X10_35 (hS 0 _ rfl) rfl d_X10_orders_160 ?_
    refine gb_aload_n d_X10_orders_163 rfl ?_
    refine gb_getr (r := 38) f_X10_39 (hS 0 _ rfl) rfl d_X10_orders_164 ?_
    obtain ⟨r15, e16, h⟩ := gb_bd_e h
    refine gb_cVv (As := [.ref 38]) (rest := []) m_X10_208 (t_X3_copyFrom (Γ := Γ) hS (ok_X3_33 hS) (ok_X3_38 hS) e16) (ok_X3_33 hS).1 rfl (Nat.le_of_ble_eq_true rfl) rfl rfl (Nat.le_of_ble_eq_true rfl) d_X10_orders_167 ?_
    refine gb_aload_n d_X10_orders_170 rfl ?_
    refine gb_bipush (-3) d_X10_orders_171 rfl ?_
    obtain ⟨r17, e18, h⟩ := gb_bd_e h
    refine gb_cVi (As := [.int (-3)]) (rest := []) m_X10_119 (t_X10_refuse (Γ := Γ) hS e18) (hS 0 _ rfl) rfl (Nat.le_of_ble_eq_true rfl) rfl rfl (Nat.le_of_ble_eq_true rfl) d_X10_orders_173 ?_
    cases h
    exact gb_iret d_X10_orders_176 rfl ⟨rfl, rfl, rfl⟩
set_option maxRecDepth 100000 in
set_option maxHeartbeats 4000000 in
theorem t_X10_orders_134 {Γ : gb_X} {sh : List gb_Sh} {out : gb_G × Int32} (hS : gb_S sh) {K78 : gb_G → Int32 → Option (gb_G × Int32)} (hK78 : ∀ (g : gb_G) (y2 : Int32), K78 g y2 = some out → gb_J Γ M_X10_orders 483 (gb_Ri sh out) 0 0 sh g 78 [(0, .ref 0), (1, .ref 46), (2, .int y2)] []) : ∀ (g : gb_G) (y2 : Int32), f_X10_orders_134 sh K78 g y2 = some out → gb_J Γ M_X10_orders 483 (gb_Ri sh out) 0 0 sh g 134 [(0, .ref 0), (1, .ref 46), (2, .int y2)] [] := by
  intro g y2 h
  unfold f_X10_orders_134 at h
  refine gb_iinc (y2 + 1) [(2, .int (y2 + 1)), (0, .ref 0), (1, .ref 46)] d_X10_orders_134 (Nat.le_of_ble_eq_true rfl) rfl rfl rfl ?_
  refine gb_goto 78 d_X10_orders_137 (by decide) ?_
  refine gb_pick (lv' := [(0, .ref 0), (1, .ref 46), (2, .int (y2 + 1))]) [1, 2, 0] rfl ?_
  exact hK78 _ (y2 + 1) h
set_option maxRecDepth 100000 in
set_option maxHeartbeats 4000000 in
theorem t_X10_orders_128 {Γ : gb_X} {sh : List gb_Sh} {out : gb_G × Int32} (hS : gb_S sh) {K96 : gb_G → Int32 → Int32 → Option (gb_G × Int32)} (hK96 : ∀ (g : gb_G) (y2 : Int32) (y3 : Int32), K96 g y2 y3 = some out → gb_J Γ M_X10_orders 483 (gb_Ri sh out) 0 0 sh g 96 [(0, .ref 0), (1, .ref 46), (2, .int y2), (3, .int y3)] []) : ∀ (g : gb_G) (y2 : Int32) (y3 : Int32), f_X10_orders_128 sh K96 g y2 y3 = some out → gb_J Γ M_X10_orders 483 (gb_Ri sh out) 0 0 sh g 128 [(0, .ref 0), (1, .ref 46), (2, .int y2), (3, .int y3)] [] := by
  intro g y2 y3 h
  unfold f_X10_orders_128 at h
  refine gb_iinc (y3 + 1) [(3, .int (y3 + 1)), (0, .ref 0), (1, .ref 46), (2, .int y2)] d_X10_orders_128 (Nat.le_of_ble_eq_true rfl) rfl rfl rfl ?_
  refine gb_goto 96 d_X10_orders_131 (by decide) ?_
  refine gb_pick (lv' := [(0, .ref 0), (1, .ref 46), (2, .int y2), (3, .int (y3 + 1))]) [1, 2, 3, 0] rfl ?_
  exact hK96 _ y2 (y3 + 1) h
set_option maxRecDepth 100000 in
set_option maxHeartbeats 4000000 in
theorem t_X10_orders_96 {Γ : gb_X} {sh : List gb_Sh} {out : gb_G × Int32} (hS : gb_S sh) {K78 : gb_G → Int32 → Option (gb_G × Int32)} (hK78 : ∀ (g : gb_G) (y2 : Int32), K78 g y2 = some out → gb_J Γ M_X10_orders 483 (gb_Ri sh out) 0 0 sh g 78 [(0, .ref 0), (1, .ref 46), (2, .int y2)] []) : ∀ (n : Nat) (g : gb_G) (y2 : Int32) (y3 : Int32), f_X10_orders_96 sh K78 n g y2 y3 = some out → gb_J Γ M_X10_orders 483 (gb_Ri sh out) 0 0 sh g 96 [(0, .ref 0), (1, .ref 46), (2, .int y2), (3, .int y3)] [] := by
  intro n
  induction n with
  | zero => intro g y2 y3 h; cases h
  | succ n ih =>
    intro g y2 y3 h
    rw [f_X10_orders_96] at h
    refine gb_iload_n d_X10_orders_96 rfl ?_
    refine gb_aload_n d_X10_orders_97 rfl ?_
    refine gb_getr (r := (46 + 4)) f_X10_214 (ok_X7_46 hS).1 rfl d_X10_orders_98 ?_
    refine gb_iload_n d_X10_orders_101 rfl ?_
    obtain ⟨hi19, h⟩ := gb_ck_e h
    refine gb_iald_ y2.toNatClampNeg rfl (ok_X7_46 hS).2.2.2.2.1 hi19 d_X10_orders_102 ?_
    refine gb_icmp_ge 134 d_X10_orders_103 (by decide) (fun hc => ?_) (fun hc => ?_)
    · have h := gb_it hc h
      refine gb_pick (lv' := [(0, .ref 0), (1, .ref 46), (2, .int y2)]) [0, 1, 2] rfl ?_
      exact t_X10_orders_134 hS hK78 _ y2 h
    · have h := gb_if hc h
      refine gb_aload_n d_X10_orders_106 rfl ?_
      refine gb_geti f_X10_105 (hS 0 _ rfl) rfl d_X10_orders_107 ?_
      refine gb_iconst (-1) d_X10_orders_110 rfl ?_
      refine gb_icmp_ne 134 d_X10_orders_111 (by decide) (fun hc => ?_) (fun hc => ?_)
      · have h := gb_if hc h
        refine gb_pick (lv' := [(0, .ref 0), (1, .ref 46), (2, .int y2)]) [0, 1, 2] rfl ?_
        exact t_X10_orders_134 hS hK78 _ y2 h
      · have h := gb_it hc h
        refine gb_aload_n d_X10_orders_114 rfl ?_
        refine gb_aload_n d_X10_orders_115 rfl ?_
        refine gb_iload_n d_X10_orders_116 rfl ?_
        obtain ⟨r20, e21, h⟩ := gb_bd_e h
        refine gb_cVi (As := [.ref 46, .int y2]) (rest := []) m_X10_217 (t_X10_runOnce (Γ := Γ) hS e21) (hS 0 _ rfl) rfl (Nat.le_of_ble_eq_true rfl) rfl rfl (Nat.le_of_ble_eq_true rfl) d_X10_orders_117 ?_
        refine gb_if_ne 128 d_X10_orders_120 (by decide) (fun hc => ?_) (fun hc => ?_)
        · have h := gb_if hc h
          exact t_X10_orders_128 hS (fun w w0 w1 hw => ih w w0 w1 hw) _ y2 y3 h
        · have h := gb_it hc h
          refine gb_aload_n d_X10_orders_123 rfl ?_
          refine gb_iload_n d_X10_orders_124 rfl ?_
          refine gb_puti f_X10_105 (fun h => nomatch h) (hS 0 _ rfl) rfl rfl rfl d_X10_orders_125 ?_
          have h := gb_let_e h
          generalize gb_pi r20.1 0 17 y2 = g22 at h ⊢
          exact t_X10_orders_128 hS (fun w w0 w1 hw => ih w w0 w1 hw) _ y2 y3 h
set_option maxRecDepth 100000 in
set_option maxHeartbeats 4000000 in
theorem t_X10_orders_78 {Γ : gb_X} {sh : List gb_Sh} {out : gb_G × Int32} (hS : gb_S sh) : ∀ (n : Nat) (g : gb_G) (y2 : Int32), f_X10_orders_78 sh n g y2 = some out → gb_J Γ M_X10_orders 483 (gb_Ri sh out) 0 0 sh g 78 [(0, .ref 0), (1, .ref 46), (2, .int y2)] [] := by
  intro n
  induction n with
  | zero => intro g y2 h; cases h
  | succ n ih =>
    intro g y2 h
    rw [f_X10_orders_78] at h
    refine gb_iload_n d_X10_orders_78 rfl ?_
    refine gb_aload_n d_X10_orders_79 rfl ?_
    refine gb_geti f_X10_211 (ok_X7_46 hS).1 rfl d_X10_orders_80 ?_
    refine gb_icmp_ge 140 d_X10_orders_83 (by decide) (fun hc => ?_) (fun hc => ?_)
    · have h := gb_it hc h
      refine gb_pick (lv' := [(0, .ref 0)]) [0] rfl ?_
      exact t_X10_orders_140 hS  _  h
    · have h := gb_if hc h
      refine gb_aload_n d_X10_orders_86 rfl ?_
      refine gb_geti f_X10_105 (hS 0 _ rfl) rfl d_X10_orders_87 ?_
      refine gb_iconst (-1) d_X10_orders_90 rfl ?_
      refine gb_icmp_ne 140 d_X10_orders_91 (by decide) (fun hc => ?_) (fun hc => ?_)
      · have h := gb_if hc h
        refine gb_pick (lv' := [(0, .ref 0)]) [0] rfl ?_
        exact t_X10_orders_140 hS  _  h
      · have h := gb_it hc h
        refine gb_iconst 0 d_X10_orders_94 rfl ?_
        refine gb_istore_n [(3, .int 0), (0, .ref 0), (1, .ref 46), (2, .int y2)] d_X10_orders_95 (Nat.le_of_ble_eq_true rfl) rfl ?_
        refine gb_pick (lv' := [(0, .ref 0), (1, .ref 46), (2, .int y2), (3, .int 0)]) [1, 2, 3, 0] rfl ?_
        exact t_X10_orders_96 hS (fun w w0 hw => ih w w0 hw) gb_N _ y2 0 h
set_option maxRecDepth 100000 in
set_option maxHeartbeats 4000000 in
theorem t_X10_orders {Γ : gb_X} {sh : List gb_Sh} {out : gb_G × Int32} (hS : gb_S sh) {g : gb_G} (h : f_X10_orders sh g = some out) : gb_C Γ M_X10_orders 483 0 0 sh g [.ref 0] (gb_Ri sh out) := by
  refine gb_C.of rfl (Nat.le_of_ble_eq_true rfl) ?_
  refine gb_pick (lv' := [(0, .ref 0)]) [0] rfl ?_
  unfold f_X10_orders at h
  refine gb_aload_n d_X10_orders_0 rfl ?_
  refine gb_iconst (-1) d_X10_orders_1 rfl ?_
  refine gb_puti f_X10_105 (fun h => nomatch h) (hS 0 _ rfl) rfl rfl rfl d_X10_orders_2 ?_
  have h := gb_let_e h
  generalize gb_pi g 0 17 (-1) = g1 at h ⊢
  refine gb_aload_n d_X10_orders_5 rfl ?_
  refine gb_aload_n d_X10_orders_6 rfl ?_
  refine gb_getr (r := 45) f_X10_54 (hS 0 _ rfl) rfl d_X10_orders_7 ?_
  refine gb_iconst 1 d_X10_orders_10 rfl ?_
  obtain ⟨r2, e3, h⟩ := gb_bd_e h
  refine gb_cVi (As := [.int 1]) (rest := [.ref 0]) m_X10_188 (t_X8_read (Γ := Γ) hS e3) (hS 45 _ rfl) rfl (Nat.le_of_ble_eq_true rfl) rfl rfl (Nat.le_of_ble_eq_true rfl) d_X10_orders_11 ?_
  refine gb_puti f_X10_98 (fun h => nomatch h) (hS 0 _ rfl) rfl rfl rfl d_X10_orders_14 ?_
  have h := gb_let_e h
  generalize gb_pi r2.1 0 15 r2.2 = g4 at h ⊢
  refine gb_aload_n d_X10_orders_17 rfl ?_
  refine gb_geti f_X10_98 (hS 0 _ rfl) rfl d_X10_orders_18 ?_
  refine gb_iconst (-1) d_X10_orders_21 rfl ?_
  refine gb_icmp_eq 32 d_X10_orders_22 (by decide) (fun hc => ?_) (fun hc => ?_)
  · have h := gb_it hc h
    refine gb_aload_n d_X10_orders_32 rfl ?_
    refine gb_getr (r := 7) f_X10_18 (hS 0 _ rfl) rfl d_X10_orders_33 ?_
    refine gb_aload_n d_X10_orders_36 rfl ?_
    refine gb_getr (r := 1) f_X10_14 (hS 0 _ rfl) rfl d_X10_orders_37 ?_
    obtain ⟨r5, e6, h⟩ := gb_bd_e h
    refine gb_cVv (As := [.ref 1]) (rest := []) m_X10_204 (t_X0_copyFrom (Γ := Γ) hS (ok_X0_7 hS) (ok_X0_1 hS) e6) (ok_X0_7 hS).1 rfl (Nat.le_of_ble_eq_true rfl) rfl rfl (Nat.le_of_ble_eq_true rfl) d_X10_orders_40 ?_
    refine gb_aload_n d_X10_orders_43 rfl ?_
    refine gb_getr (r := 38) f_X10_39 (hS 0 _ rfl) rfl d_X10_orders_44 ?_
    refine gb_aload_n d_X10_orders_47 rfl ?_
    refine gb_getr (r := 33) f_X10_35 (hS 0 _ rfl) rfl d_X10_orders_48 ?_
    obtain ⟨r7, e8, h⟩ := gb_bd_e h
    refine gb_cVv (As := [.ref 33]) (rest := []) m_X10_208 (t_X3_copyFrom (Γ := Γ) hS (ok_X3_38 hS) (ok_X3_33 hS) e8) (ok_X3_38 hS).1 rfl (Nat.le_of_ble_eq_true rfl) rfl rfl (Nat.le_of_ble_eq_true rfl) d_X10_orders_51 ?_
    refine gb_aload_n d_X10_orders_54 rfl ?_
    refine gb_getr (r := 45) f_X10_54 (hS 0 _ rfl) rfl d_X10_orders_55 ?_
    refine gb_getr (r := 46) f_X10_193 (hS 45 _ rfl) rfl d_X10_orders_58 ?_
    refine gb_astore_n [(1, .ref 46), (0, .ref 0)] d_X10_orders_61 (Nat.le_of_ble_eq_true rfl) rfl ?_
    refine gb_aload_n d_X10_orders_62 rfl ?_
    refine gb_getr (r := 75) f_X10_92 (hS 0 _ rfl) rfl d_X10_orders_63 ?_
    refine gb_iconst 1 d_X10_orders_66 rfl ?_
    refine gb_iconst 0 d_X10_orders_67 rfl ?_
    refine gb_iast_ 1 rfl (hS 75 _ rfl) (by unfold vp_in; decide) d_X10_orders_68 ?_
    have h := gb_let_e h
    generalize gb_pi r7 75 1 0 = g9 at h ⊢
    refine gb_aload_n d_X10_orders_69 rfl ?_
    refine gb_getr (r := 75) f_X10_92 (hS 0 _ rfl) rfl d_X10_orders_70 ?_
    refine gb_iconst 2 d_X10_orders_73 rfl ?_
    refine gb_iconst (-1) d_X10_orders_74 rfl ?_
    refine gb_iast_ 2 rfl (hS 75 _ rfl) (by unfold vp_in; decide) d_X10_orders_75 ?_
    have h := gb_let_e h
    generalize gb_pi g9 75 2 (-1) = g10 at h ⊢
    refine gb_iconst 0 d_X10_orders_76 rfl ?_
    refine gb_istore_n [(2, .int 0), (1, .ref 46), (0, .ref 0)] d_X10_orders_77 (Nat.le_of_ble_eq_true rfl) rfl ?_
    refine gb_pick (lv' := [(0, .ref 0), (1, .ref 46), (2, .int 0)]) [2, 1, 0] rfl ?_
    exact t_X10_orders_78 hS  gb_N _ 0 h
  · have h := gb_if hc h
    refine gb_aload_n d_X10_orders_25 rfl ?_
    refine gb_bipush (-6) d_X10_orders_26 rfl ?_
    obtain ⟨r23, e24, h⟩ := gb_bd_e h
    refine gb_cVi (As := [.int (-6)]) (rest := []) m_X10_119 (t_X10_refuse (Γ := Γ) hS e24) (hS 0 _ rfl) rfl (Nat.le_of_ble_eq_true rfl) rfl rfl (Nat.le_of_ble_eq_true rfl) d_X10_orders_28 ?_
    cases h
    exact gb_iret d_X10_orders_31 rfl ⟨rfl, rfl, rfl⟩
-- X10_fault
noncomputable def f_X10_fault (sh : List gb_Sh) (g : gb_G) : Option (gb_G × Int32) := some (g, (g.1 0 15))
set_option maxRecDepth 100000 in
set_option maxHeartbeats 4000000 in
theorem t_X10_fault {Γ : gb_X} {sh : List gb_Sh} {out : gb_G × Int32} (hS : gb_S sh) {g : gb_G} (h : f_X10_fault sh g = some out) : gb_C Γ M_X10_fault 0 0 0 sh g [.ref 0] (gb_Ri sh out) := by
  refine gb_C.of rfl (Nat.le_of_ble_eq_true rfl) ?_
  refine gb_pick (lv' := [(0, .ref 0)]) [0] rfl ?_
  unfold f_X10_fault at h
  refine gb_aload_n d_X10_fault_0 rfl ?_
  refine gb_geti f_X10_98 (hS 0 _ rfl) rfl d_X10_fault_1 ?_
  cases h
  exact gb_iret d_X10_fault_4 rfl ⟨rfl, rfl, rfl⟩
-- X10_stopped
noncomputable def f_X10_stopped (sh : List gb_Sh) (g : gb_G) : Option (gb_G × Int32) := some (g, (g.1 0 17))
set_option maxRecDepth 100000 in
set_option maxHeartbeats 4000000 in
theorem t_X10_stopped {Γ : gb_X} {sh : List gb_Sh} {out : gb_G × Int32} (hS : gb_S sh) {g : gb_G} (h : f_X10_stopped sh g = some out) : gb_C Γ M_X10_stopped 0 0 0 sh g [.ref 0] (gb_Ri sh out) := by
  refine gb_C.of rfl (Nat.le_of_ble_eq_true rfl) ?_
  refine gb_pick (lv' := [(0, .ref 0)]) [0] rfl ?_
  unfold f_X10_stopped at h
  refine gb_aload_n d_X10_stopped_0 rfl ?_
  refine gb_geti f_X10_105 (hS 0 _ rfl) rfl d_X10_stopped_1 ?_
  cases h
  exact gb_iret d_X10_stopped_4 rfl ⟨rfl, rfl, rfl⟩
-- X10_force
noncomputable def f_X10_force_29 (sh : List gb_Sh) (g : gb_G) (y1 : Int32) : Option (gb_G × Int32) := gb_let (gb_pi g 1 9 y1) (fun g1 => gb_bd (f_X10_grant sh g1 (g.1 1 9)) (fun r2 => some (r2.1, r2.2)))
noncomputable def f_X10_force (sh : List gb_Sh) (g : gb_G) (x1 : Int32) : Option (gb_G × Int32) := if x1 = (-1) then (f_X10_force_29 sh g x1) else (gb_bd (f_X10_within sh g x1 0 ((g.1 1 7) - 1)) (fun r4 => if r4.2 = 0 then (gb_bd (f_X10_refuse sh r4.1 (-2)) (fun r6 => some (r6.1, r6.2))) else (f_X10_force_29 sh r4.1 x1)))
set_option maxRecDepth 100000 in
set_option maxHeartbeats 4000000 in
theorem t_X10_force_29 {Γ : gb_X} {sh : List gb_Sh} {out : gb_G × Int32} (hS : gb_S sh) : ∀ (g : gb_G) (y1 : Int32), f_X10_force_29 sh g y1 = some out → gb_J Γ M_X10_force 2 (gb_Ri sh out) 0 0 sh g 29 [(0, .ref 0), (1, .int y1)] [] := by
  intro g y1 h
  unfold f_X10_force_29 at h
  refine gb_aload_n d_X10_force_29 rfl ?_
  refine gb_getr (r := 1) f_X10_14 (hS 0 _ rfl) rfl d_X10_force_30 ?_
  refine gb_geti f_X10_221 (ok_X0_1 hS).1 rfl d_X10_force_33 ?_
  refine gb_istore_n [(2, .int (g.1 1 9)), (0, .ref 0), (1, .int y1)] d_X10_force_36 (Nat.le_of_ble_eq_true rfl) rfl ?_
  refine gb_aload_n d_X10_force_37 rfl ?_
  refine gb_getr (r := 1) f_X10_14 (hS 0 _ rfl) rfl d_X10_force_38 ?_
  refine gb_iload_n d_X10_force_41 rfl ?_
  refine gb_puti f_X10_221 (fun h => nomatch h) (ok_X0_1 hS).1 rfl rfl rfl d_X10_force_42 ?_
  have h := gb_let_e h
  generalize gb_pi g 1 9 y1 = g1 at h ⊢
  refine gb_aload_n d_X10_force_45 rfl ?_
  refine gb_iload_n d_X10_force_46 rfl ?_
  obtain ⟨r2, e3, h⟩ := gb_bd_e h
  refine gb_cVi (As := [.int (g.1 1 9)]) (rest := []) m_X10_133 (t_X10_grant (Γ := Γ) hS e3) (hS 0 _ rfl) rfl (Nat.le_of_ble_eq_true rfl) rfl rfl (Nat.le_of_ble_eq_true rfl) d_X10_force_47 ?_
  cases h
  exact gb_iret d_X10_force_50 rfl ⟨rfl, rfl, rfl⟩
set_option maxRecDepth 100000 in
set_option maxHeartbeats 4000000 in
theorem t_X10_force {Γ : gb_X} {sh : List gb_Sh} {x1 : Int32} {out : gb_G × Int32} (hS : gb_S sh) {g : gb_G} (h : f_X10_force sh g x1 = some out) : gb_C Γ M_X10_force 2 0 0 sh g [.ref 0, .int x1] (gb_Ri sh out) := by
  refine gb_C.of rfl (Nat.le_of_ble_eq_true rfl) ?_
  refine gb_pick (lv' := [(0, .ref 0), (1, .int x1)]) [0, 1] rfl ?_
  unfold f_X10_force at h
  refine gb_iload_n d_X10_force_0 rfl ?_
  refine gb_iconst (-1) d_X10_force_1 rfl ?_
  refine gb_icmp_eq 29 d_X10_force_2 (by decide) (fun hc => ?_) (fun hc => ?_)
  · have h := gb_it hc h
    exact t_X10_force_29 hS  _ x1 h
  · have h := gb_if hc h
    refine gb_iload_n d_X10_force_5 rfl ?_
    refine gb_iconst 0 d_X10_force_6 rfl ?_
    refine gb_aload_n d_X10_force_7 rfl ?_
    refine gb_getr (r := 1) f_X10_14 (hS 0 _ rfl) rfl d_X10_force_8 ?_
    refine gb_geti f_X10_185 (ok_X0_1 hS).1 rfl d_X10_force_11 ?_
    refine gb_iconst 1 d_X10_force_14 rfl ?_
    refine gb_isub d_X10_force_15 ?_
    obtain ⟨r4, e5, h⟩ := gb_bd_e h
    refine gb_cSi (As := [.int x1, .int 0, .int ((g.1 1 7) - 1)]) (rest := []) m_X10_115 (t_X10_within (Γ := Γ) hS e5) (Nat.le_of_ble_eq_true rfl) rfl rfl (Nat.le_of_ble_eq_true rfl) d_X10_force_16 ?_
    refine gb_if_ne 29 d_X10_force_19 (by decide) (fun hc => ?_) (fun hc => ?_)
    · have h := gb_if hc h
      exact t_X10_force_29 hS  _ x1 h
    · have h := gb_it hc h
      refine gb_aload_n d_X10_force_22 rfl ?_
      refine gb_bipush (-2) d_X10_force_23 rfl ?_
      obtain ⟨r6, e7, h⟩ := gb_bd_e h
      refine gb_cVi (As := [.int (-2)]) (rest := []) m_X10_119 (t_X10_refuse (Γ := Γ) hS e7) (hS 0 _ rfl) rfl (Nat.le_of_ble_eq_true rfl) rfl rfl (Nat.le_of_ble_eq_true rfl) d_X10_force_25 ?_
      cases h
      exact gb_iret d_X10_force_28 rfl ⟨rfl, rfl, rfl⟩
-- X10_settle
noncomputable def f_X10_settle (sh : List gb_Sh) (g : gb_G) (x1 : Int32) : Option (gb_G × Int32) := if 0 ≤ x1 then (gb_bd (f_X10_grant sh g x1) (fun r1 => some (r1.1, r1.2))) else (gb_bd (f_X10_refuse sh g x1) (fun r3 => some (r3.1, r3.2)))
set_option maxRecDepth 100000 in
set_option maxHeartbeats 4000000 in
theorem t_X10_settle {Γ : gb_X} {sh : List gb_Sh} {x1 : Int32} {out : gb_G × Int32} (hS : gb_S sh) {g : gb_G} (h : f_X10_settle sh g x1 = some out) : gb_C Γ M_X10_settle 2 0 0 sh g [.ref 0, .int x1] (gb_Ri sh out) := by
  refine gb_C.of rfl (Nat.le_of_ble_eq_true rfl) ?_
  refine gb_pick (lv' := [(0, .ref 0), (1, .int x1)]) [0, 1] rfl ?_
  unfold f_X10_settle at h
  refine gb_iload_n d_X10_settle_0 rfl ?_
  refine gb_if_ge 12 d_X10_settle_1 (by decide) (fun hc => ?_) (fun hc => ?_)
  · have h := gb_it hc h
    refine gb_aload_n d_X10_settle_12 rfl ?_
    refine gb_iload_n d_X10_settle_13 rfl ?_
    obtain ⟨r1, e2, h⟩ := gb_bd_e h
    refine gb_cVi (As := [.int x1]) (rest := []) m_X10_133 (t_X10_grant (Γ := Γ) hS e2) (hS 0 _ rfl) rfl (Nat.le_of_ble_eq_true rfl) rfl rfl (Nat.le_of_ble_eq_true rfl) d_X10_settle_14 ?_
    cases h
    exact gb_iret d_X10_settle_17 rfl ⟨rfl, rfl, rfl⟩
  · have h := gb_if hc h
    refine gb_aload_n d_X10_settle_4 rfl ?_
    refine gb_iload_n d_X10_settle_5 rfl ?_
    obtain ⟨r3, e4, h⟩ := gb_bd_e h
    refine gb_cVi (As := [.int x1]) (rest := []) m_X10_119 (t_X10_refuse (Γ := Γ) hS e4) (hS 0 _ rfl) rfl (Nat.le_of_ble_eq_true rfl) rfl rfl (Nat.le_of_ble_eq_true rfl) d_X10_settle_6 ?_
    refine gb_goto 17 d_X10_settle_9 (by decide) ?_
    cases h
    exact gb_iret d_X10_settle_17 rfl ⟨rfl, rfl, rfl⟩
-- X10_lack
noncomputable def f_X10_lack (sh : List gb_Sh) (g : gb_G) (x1 : Int32) : Option (gb_G × Int32) := gb_bd (f_X10_changeLacking sh g x1 1) (fun r1 => gb_bd (f_X10_settle sh r1.1 r1.2) (fun r3 => some (r3.1, r3.2)))
set_option maxRecDepth 100000 in
set_option maxHeartbeats 4000000 in
theorem t_X10_lack {Γ : gb_X} {sh : List gb_Sh} {x1 : Int32} {out : gb_G × Int32} (hS : gb_S sh) {g : gb_G} (h : f_X10_lack sh g x1 = some out) : gb_C Γ M_X10_lack 4 0 0 sh g [.ref 0, .int x1] (gb_Ri sh out) := by
  refine gb_C.of rfl (Nat.le_of_ble_eq_true rfl) ?_
  refine gb_pick (lv' := [(0, .ref 0), (1, .int x1)]) [0, 1] rfl ?_
  unfold f_X10_lack at h
  refine gb_aload_n d_X10_lack_0 rfl ?_
  refine gb_aload_n d_X10_lack_1 rfl ?_
  refine gb_iload_n d_X10_lack_2 rfl ?_
  refine gb_iconst 1 d_X10_lack_3 rfl ?_
  obtain ⟨r1, e2, h⟩ := gb_bd_e h
  refine gb_cVi (As := [.int x1, .int 1]) (rest := [.ref 0]) m_X10_235 (t_X10_changeLacking (Γ := Γ) hS e2) (hS 0 _ rfl) rfl (Nat.le_of_ble_eq_true rfl) rfl rfl (Nat.le_of_ble_eq_true rfl) d_X10_lack_4 ?_
  obtain ⟨r3, e4, h⟩ := gb_bd_e h
  refine gb_cVi (As := [.int r1.2]) (rest := []) m_X10_266 (t_X10_settle (Γ := Γ) hS e4) (hS 0 _ rfl) rfl (Nat.le_of_ble_eq_true rfl) rfl rfl (Nat.le_of_ble_eq_true rfl) d_X10_lack_7 ?_
  cases h
  exact gb_iret d_X10_lack_10 rfl ⟨rfl, rfl, rfl⟩
-- X10_find
noncomputable def f_X10_find (sh : List gb_Sh) (g : gb_G) (x1 : Int32) : Option (gb_G × Int32) := gb_bd (f_X10_changeLacking sh g x1 0) (fun r1 => gb_bd (f_X10_settle sh r1.1 r1.2) (fun r3 => some (r3.1, r3.2)))
set_option maxRecDepth 100000 in
set_option maxHeartbeats 4000000 in
theorem t_X10_find {Γ : gb_X} {sh : List gb_Sh} {x1 : Int32} {out : gb_G × Int32} (hS : gb_S sh) {g : gb_G} (h : f_X10_find sh g x1 = some out) : gb_C Γ M_X10_find 4 0 0 sh g [.ref 0, .int x1] (gb_Ri sh out) := by
  refine gb_C.of rfl (Nat.le_of_ble_eq_true rfl) ?_
  refine gb_pick (lv' := [(0, .ref 0), (1, .int x1)]) [0, 1] rfl ?_
  unfold f_X10_find at h
  refine gb_aload_n d_X10_find_0 rfl ?_
  refine gb_aload_n d_X10_find_1 rfl ?_
  refine gb_iload_n d_X10_find_2 rfl ?_
  refine gb_iconst 0 d_X10_find_3 rfl ?_
  obtain ⟨r1, e2, h⟩ := gb_bd_e h
  refine gb_cVi (As := [.int x1, .int 0]) (rest := [.ref 0]) m_X10_235 (t_X10_changeLacking (Γ := Γ) hS e2) (hS 0 _ rfl) rfl (Nat.le_of_ble_eq_true rfl) rfl rfl (Nat.le_of_ble_eq_true rfl) d_X10_find_4 ?_
  obtain ⟨r3, e4, h⟩ := gb_bd_e h
  refine gb_cVi (As := [.int r1.2]) (rest := []) m_X10_266 (t_X10_settle (Γ := Γ) hS e4) (hS 0 _ rfl) rfl (Nat.le_of_ble_eq_true rfl) rfl rfl (Nat.le_of_ble_eq_true rfl) d_X10_find_7 ?_
  cases h
  exact gb_iret d_X10_find_10 rfl ⟨rfl, rfl, rfl⟩
