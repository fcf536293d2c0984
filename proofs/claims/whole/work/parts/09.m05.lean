-- X10_changeLacking
noncomputable def f_X10_changeLacking_44 (sh : List gb_Sh) (g : gb_G) (y1 : Int32) (y2 : Int32) (z0 : Int32) : Option (gb_G × Int32) := gb_bd (f_X3_remember sh g 33 z0 y1 1) (fun r5 => gb_bd (f_X0_write sh r5 1 y1 5 y2) (fun r7 => gb_bd (f_X0_lackingCount sh r7 1) (fun r9 => some (r9.1, r9.2))))
noncomputable def f_X10_changeLacking (sh : List gb_Sh) (g : gb_G) (x1 : Int32) (x2 : Int32) : Option (gb_G × Int32) := gb_bd (f_X0_has sh g 1 x1) (fun r1 => if r1.2 = 0 then (some (r1.1, (-2))) else (gb_bd (f_X0_read sh r1.1 1 x1 5) (fun r3 => if r3.2 = x2 then (some (r3.1, (-3))) else (if x2 = 1 then (f_X10_changeLacking_44 sh r3.1 x1 x2 0) else (f_X10_changeLacking_44 sh r3.1 x1 x2 1)))))
set_option maxRecDepth 100000 in
set_option maxHeartbeats 4000000 in
theorem t_X10_changeLacking_44 {Γ : gb_X} {sh : List gb_Sh} {out : gb_G × Int32} (hS : gb_S sh) : ∀ (g : gb_G) (y1 : Int32) (y2 : Int32) (z0 : Int32), f_X10_changeLacking_44 sh g y1 y2 z0 = some out → gb_J Γ M_X10_changeLacking 3 (gb_Ri sh out) 0 0 sh g 44 [(0, .ref 0), (1, .int y1), (2, .int y2)] [.int z0, .ref 33] := by
  intro g y1 y2 z0 h
  unfold f_X10_changeLacking_44 at h
  refine gb_iload_n d_X10_changeLacking_44 rfl ?_
  refine gb_aload_n d_X10_changeLacking_45 rfl ?_
  refine gb_getr (r := 1) f_X10_14 (hS 0 _ rfl) rfl d_X10_changeLacking_46 ?_
  obtain ⟨r5, e6, h⟩ := gb_bd_e h
  refine gb_cVv (As := [.int z0, .int y1, .ref 1]) (rest := []) m_X10_259 (t_X3_remember (Γ := Γ) hS (ok_X3_33 hS) (ok_X0_1 hS) e6) (ok_X3_33 hS).1 rfl (Nat.le_of_ble_eq_true rfl) rfl rfl (Nat.le_of_ble_eq_true rfl) d_X10_changeLacking_49 ?_
  refine gb_aload_n d_X10_changeLacking_52 rfl ?_
  refine gb_getr (r := 1) f_X10_14 (hS 0 _ rfl) rfl d_X10_changeLacking_53 ?_
  refine gb_iload_n d_X10_changeLacking_56 rfl ?_
  refine gb_iconst 5 d_X10_changeLacking_57 rfl ?_
  refine gb_iload_n d_X10_changeLacking_58 rfl ?_
  obtain ⟨r7, e8, h⟩ := gb_bd_e h
  refine gb_cVv (As := [.int y1, .int 5, .int y2]) (rest := []) m_X10_153 (t_X0_write (Γ := Γ) hS (ok_X0_1 hS) e8) (ok_X0_1 hS).1 rfl (Nat.le_of_ble_eq_true rfl) rfl rfl (Nat.le_of_ble_eq_true rfl) d_X10_changeLacking_59 ?_
  refine gb_aload_n d_X10_changeLacking_62 rfl ?_
  refine gb_getr (r := 1) f_X10_14 (hS 0 _ rfl) rfl d_X10_changeLacking_63 ?_
  obtain ⟨r9, e10, h⟩ := gb_bd_e h
  refine gb_cVi (As := []) (rest := []) m_X10_245 (t_X0_lackingCount (Γ := Γ) hS (ok_X0_1 hS) e10) (ok_X0_1 hS).1 rfl (Nat.le_of_ble_eq_true rfl) rfl rfl (Nat.le_of_ble_eq_true rfl) d_X10_changeLacking_66 ?_
  cases h
  exact gb_iret d_X10_changeLacking_69 rfl ⟨rfl, rfl, rfl⟩
set_option maxRecDepth 100000 in
set_option maxHeartbeats 4000000 in
theorem t_X10_changeLacking {Γ : gb_X} {sh : List gb_Sh} {x1 : Int32} {x2 : Int32} {out : gb_G × Int32} (hS : gb_S sh) {g : gb_G} (h : f_X10_changeLacking sh g x1 x2 = some out) : gb_C Γ M_X10_changeLacking 3 0 0 sh g [.ref 0, .int x1, .int x2] (gb_Ri sh out) := by
  refine gb_C.of rfl (Nat.le_of_ble_eq_true rfl) ?_
  refine gb_pick (lv' := [(0, .ref 0), (1, .int x1), (2, .int x2)]) [0, 1, 2] rfl ?_
  unfold f_X10_changeLacking at h
  refine gb_aload_n d_X10_changeLacking_0 rfl ?_
  refine gb_getr (r := 1) f_X10_14 (hS 0 _ rfl) rfl d_X10_changeLacking_1 ?_
  refine gb_iload_n d_X10_changeLacking_4 rfl ?_
  obtain ⟨r1, e2, h⟩ := gb_bd_e h
  refine gb_cVi (As := [.int x1]) (rest := []) m_X10_140 (t_X0_has (Γ := Γ) hS (ok_X0_1 hS) e2) (ok_X0_1 hS).1 rfl (Nat.le_of_ble_eq_true rfl) rfl rfl (Nat.le_of_ble_eq_true rfl) d_X10_changeLacking_5 ?_
  refine gb_if_ne 14 d_X10_changeLacking_8 (by decide) (fun hc => ?_) (fun hc => ?_)
  · have h := gb_if hc h
    refine gb_aload_n d_X10_changeLacking_14 rfl ?_
    refine gb_getr (r := 1) f_X10_14 (hS 0 _ rfl) rfl d_X10_changeLacking_15 ?_
    refine gb_iload_n d_X10_changeLacking_18 rfl ?_
    refine gb_iconst 5 d_X10_changeLacking_19 rfl ?_
    obtain ⟨r3, e4, h⟩ := gb_bd_e h
    refine gb_cVi (As := [.int x1, .int 5]) (rest := []) m_X10_136 (t_X0_read (Γ := Γ) hS (ok_X0_1 hS) e4) (ok_X0_1 hS).1 rfl (Nat.le_of_ble_eq_true rfl) rfl rfl (Nat.le_of_ble_eq_true rfl) d_X10_changeLacking_20 ?_
    refine gb_iload_n d_X10_changeLacking_23 rfl ?_
    refine gb_icmp_ne 30 d_X10_changeLacking_24 (by decide) (fun hc => ?_) (fun hc => ?_)
    · have h := gb_if hc h
      refine gb_aload_n d_X10_changeLacking_30 rfl ?_
      refine gb_getr (r := 33) f_X10_35 (hS 0 _ rfl) rfl d_X10_changeLacking_31 ?_
      refine gb_iload_n d_X10_changeLacking_34 rfl ?_
      refine gb_iconst 1 d_X10_changeLacking_35 rfl ?_
      refine gb_icmp_ne 43 d_X10_changeLacking_36 (by decide) (fun hc => ?_) (fun hc => ?_)
      · have h := gb_if hc h
        refine gb_iconst 1 d_X10_changeLacking_43 rfl ?_
        exact t_X10_changeLacking_44 hS  _ x1 x2 1 h
      · have h := gb_it hc h
        refine gb_iconst 0 d_X10_changeLacking_39 rfl ?_
        refine gb_goto 44 d_X10_changeLacking_40 (by decide) ?_
        exact t_X10_changeLacking_44 hS  _ x1 x2 0 h
    · have h := gb_it hc h
      refine gb_bipush (-3) d_X10_changeLacking_27 rfl ?_
      cases h
      exact gb_iret d_X10_changeLacking_29 rfl ⟨rfl, rfl, rfl⟩
  · have h := gb_it hc h
    refine gb_bipush (-2) d_X10_changeLacking_11 rfl ?_
    cases h
    exact gb_iret d_X10_changeLacking_13 rfl ⟨rfl, rfl, rfl⟩
-- X10_changeWeight
noncomputable def f_X10_changeWeight (sh : List gb_Sh) (g : gb_G) (x1 : Int32) (x2 : Int32) : Option (gb_G × Int32) := gb_bd (f_X10_within sh g x2 0 99) (fun r1 => if r1.2 = 0 then (some (r1.1, (-1))) else (gb_bd (f_X0_has sh r1.1 1 x1) (fun r3 => if r3.2 = 0 then (some (r3.1, (-2))) else (gb_bd (f_X3_remember sh r3.1 33 2 x1 1) (fun r5 => gb_bd (f_X0_read sh r5 1 x1 2) (fun r7 => gb_bd (f_X0_write sh r7.1 1 x1 2 x2) (fun r9 => some (r9, r7.2))))))))
set_option maxRecDepth 100000 in
set_option maxHeartbeats 4000000 in
theorem t_X10_changeWeight {Γ : gb_X} {sh : List gb_Sh} {x1 : Int32} {x2 : Int32} {out : gb_G × Int32} (hS : gb_S sh) {g : gb_G} (h : f_X10_changeWeight sh g x1 x2 = some out) : gb_C Γ M_X10_changeWeight 3 0 0 sh g [.ref 0, .int x1, .int x2] (gb_Ri sh out) := by
  refine gb_C.of rfl (Nat.le_of_ble_eq_true rfl) ?_
  refine gb_pick (lv' := [(0, .ref 0), (1, .int x1), (2, .int x2)]) [0, 1, 2] rfl ?_
  unfold f_X10_changeWeight at h
  refine gb_iload_n d_X10_changeWeight_0 rfl ?_
  refine gb_iconst 0 d_X10_changeWeight_1 rfl ?_
  refine gb_bipush 99 d_X10_changeWeight_2 rfl ?_
  obtain ⟨r1, e2, h⟩ := gb_bd_e h
  refine gb_cSi (As := [.int x2, .int 0, .int 99]) (rest := []) m_X10_115 (t_X10_within (Γ := Γ) hS e2) (Nat.le_of_ble_eq_true rfl) rfl rfl (Nat.le_of_ble_eq_true rfl) d_X10_changeWeight_4 ?_
  refine gb_if_ne 12 d_X10_changeWeight_7 (by decide) (fun hc => ?_) (fun hc => ?_)
  · have h := gb_if hc h
    refine gb_aload_n d_X10_changeWeight_12 rfl ?_
    refine gb_getr (r := 1) f_X10_14 (hS 0 _ rfl) rfl d_X10_changeWeight_13 ?_
    refine gb_iload_n d_X10_changeWeight_16 rfl ?_
    obtain ⟨r3, e4, h⟩ := gb_bd_e h
    refine gb_cVi (As := [.int x1]) (rest := []) m_X10_140 (t_X0_has (Γ := Γ) hS (ok_X0_1 hS) e4) (ok_X0_1 hS).1 rfl (Nat.le_of_ble_eq_true rfl) rfl rfl (Nat.le_of_ble_eq_true rfl) d_X10_changeWeight_17 ?_
    refine gb_if_ne 26 d_X10_changeWeight_20 (by decide) (fun hc => ?_) (fun hc => ?_)
    · have h := gb_if hc h
      refine gb_aload_n d_X10_changeWeight_26 rfl ?_
      refine gb_getr (r := 33) f_X10_35 (hS 0 _ rfl) rfl d_X10_changeWeight_27 ?_
      refine gb_iconst 2 d_X10_changeWeight_30 rfl ?_
      refine gb_iload_n d_X10_changeWeight_31 rfl ?_
      refine gb_aload_n d_X10_changeWeight_32 rfl ?_
      refine gb_getr (r := 1) f_X10_14 (hS 0 _ rfl) rfl d_X10_changeWeight_33 ?_
      obtain ⟨r5, e6, h⟩ := gb_bd_e h
      refine gb_cVv (As := [.int 2, .int x1, .ref 1]) (rest := []) m_X10_259 (t_X3_remember (Γ := Γ) hS (ok_X3_33 hS) (ok_X0_1 hS) e6) (ok_X3_33 hS).1 rfl (Nat.le_of_ble_eq_true rfl) rfl rfl (Nat.le_of_ble_eq_true rfl) d_X10_changeWeight_36 ?_
      refine gb_aload_n d_X10_changeWeight_39 rfl ?_
      refine gb_getr (r := 1) f_X10_14 (hS 0 _ rfl) rfl d_X10_changeWeight_40 ?_
      refine gb_iload_n d_X10_changeWeight_43 rfl ?_
      refine gb_iconst 2 d_X10_changeWeight_44 rfl ?_
      obtain ⟨r7, e8, h⟩ := gb_bd_e h
      refine gb_cVi (As := [.int x1, .int 2]) (rest := []) m_X10_136 (t_X0_read (Γ := Γ) hS (ok_X0_1 hS) e8) (ok_X0_1 hS).1 rfl (Nat.le_of_ble_eq_true rfl) rfl rfl (Nat.le_of_ble_eq_true rfl) d_X10_changeWeight_45 ?_
      refine gb_istore_n [(3, .int r7.2), (0, .ref 0), (1, .int x1), (2, .int x2)] d_X10_changeWeight_48 (Nat.le_of_ble_eq_true rfl) rfl ?_
      refine gb_aload_n d_X10_changeWeight_49 rfl ?_
      refine gb_getr (r := 1) f_X10_14 (hS 0 _ rfl) rfl d_X10_changeWeight_50 ?_
      refine gb_iload_n d_X10_changeWeight_53 rfl ?_
      refine gb_iconst 2 d_X10_changeWeight_54 rfl ?_
      refine gb_iload_n d_X10_changeWeight_55 rfl ?_
      obtain ⟨r9, e10, h⟩ := gb_bd_e h
      refine gb_cVv (As := [.int x1, .int 2, .int x2]) (rest := []) m_X10_153 (t_X0_write (Γ := Γ) hS (ok_X0_1 hS) e10) (ok_X0_1 hS).1 rfl (Nat.le_of_ble_eq_true rfl) rfl rfl (Nat.le_of_ble_eq_true rfl) d_X10_changeWeight_56 ?_
      refine gb_iload_n d_X10_changeWeight_59 rfl ?_
      cases h
      exact gb_iret d_X10_changeWeight_60 rfl ⟨rfl, rfl, rfl⟩
    · have h := gb_it hc h
      refine gb_bipush (-2) d_X10_changeWeight_23 rfl ?_
      cases h
      exact gb_iret d_X10_changeWeight_25 rfl ⟨rfl, rfl, rfl⟩
  · have h := gb_it hc h
    refine gb_iconst (-1) d_X10_changeWeight_10 rfl ?_
    cases h
    exact gb_iret d_X10_changeWeight_11 rfl ⟨rfl, rfl, rfl⟩
-- X10_fillOrderWords
noncomputable def f_X10_fillOrderWords_30 (sh : List gb_Sh) : Nat → gb_G → Int32 → Option (gb_G)
  | 0, _, _ => none
  | n + 1, g, y2 => if 8 ≤ y2 then (if (g.1 46 7) = 0 then (some g) else (gb_bd (f_X0_lawInForce sh g 1) (fun r5 => gb_bd (f_X1_load sh r5.1 1 r5.2) (fun r7 => gb_bd (f_X1_hundredths sh r7) (fun r9 => gb_let (gb_pi r9.1 75 3 r9.2) (fun g11 => some g11)))))) else (gb_bd (f_X0_read sh g 1 y2 1) (fun r12 => gb_ck (5 + y2) 21 (gb_let (gb_pi r12.1 75 ((5 + y2).toNatClampNeg) r12.2) (fun g15 => gb_bd (f_X0_read sh g15 1 y2 2) (fun r16 => gb_ck (13 + y2) 21 (gb_let (gb_pi r16.1 75 ((13 + y2).toNatClampNeg) r16.2) (fun g19 => f_X10_fillOrderWords_30 sh n g19 (y2 + 1))))))))
noncomputable def f_X10_fillOrderWords (sh : List gb_Sh) (g : gb_G) : Option (gb_G) := gb_let (gb_pi g 75 0 (g.1 (1 + 4) 0)) (fun g1 => gb_bd (f_X0_lackingCount sh g1 1) (fun r2 => gb_let (gb_pi r2.1 75 4 r2.2) (fun g4 => f_X10_fillOrderWords_30 sh gb_N g4 0)))
set_option maxRecDepth 100000 in
set_option maxHeartbeats 4000000 in
theorem t_X10_fillOrderWords_30 {Γ : gb_X} {sh : List gb_Sh} {out : gb_G} (hS : gb_S sh) : ∀ (n : Nat) (g : gb_G) (y2 : Int32), f_X10_fillOrderWords_30 sh n g y2 = some out → gb_J Γ M_X10_fillOrderWords 4 (gb_Rv sh out) 0 0 sh g 30 [(0, .ref 0), (1, .ref 46), (2, .int y2)] [] := by
  intro n
  induction n with
  | zero => intro g y2 h; cases h
  | succ n ih =>
    intro g y2 h
    rw [f_X10_fillOrderWords_30] at h
    refine gb_iload_n d_X10_fillOrderWords_30 rfl ?_
    refine gb_bipush 8 d_X10_fillOrderWords_31 rfl ?_
    refine gb_icmp_ge 77 d_X10_fillOrderWords_33 (by decide) (fun hc => ?_) (fun hc => ?_)
    · have h := gb_it hc h
      refine gb_aload_n d_X10_fillOrderWords_77 rfl ?_
      refine gb_geti f_X10_248 (ok_X7_46 hS).1 rfl d_X10_fillOrderWords_78 ?_
      refine gb_if_eq 115 d_X10_fillOrderWords_81 (by decide) (fun hc => ?_) (fun hc => ?_)
      · have h := gb_it hc h
        cases h
        exact gb_vret d_X10_fillOrderWords_115 rfl ⟨rfl, rfl, rfl⟩
      · have h := gb_if hc h
        refine gb_aload_n d_X10_fillOrderWords_84 rfl ?_
        refine gb_getr (r := 57) f_X10_79 (hS 0 _ rfl) rfl d_X10_fillOrderWords_85 ?_
        refine gb_aload_n d_X10_fillOrderWords_88 rfl ?_
        refine gb_getr (r := 1) f_X10_14 (hS 0 _ rfl) rfl d_X10_fillOrderWords_89 ?_
        refine gb_aload_n d_X10_fillOrderWords_92 rfl ?_
        refine gb_getr (r := 1) f_X10_14 (hS 0 _ rfl) rfl d_X10_fillOrderWords_93 ?_
        obtain ⟨r5, e6, h⟩ := gb_bd_e h
        refine gb_cVq (As := []) (rest := [.ref 1, .ref 57]) m_X10_145 (t_X0_lawInForce (Γ := Γ) hS (ok_X0_1 hS) e6) (ok_X0_1 hS).1 rfl (Nat.le_of_ble_eq_true rfl) rfl rfl (Nat.le_of_ble_eq_true rfl) d_X10_fillOrderWords_96 ?_
        obtain ⟨r7, e8, h⟩ := gb_bd_e h
        refine gb_cVv (As := [.ref 1, va_rf r5.2]) (rest := []) m_X10_252 (t_X1_load (Γ := Γ) hS (ok_X0_1 hS) e8) (hS 57 _ rfl) rfl (Nat.le_of_ble_eq_true rfl) rfl rfl (Nat.le_of_ble_eq_true rfl) d_X10_fillOrderWords_99 ?_
        refine gb_aload_n d_X10_fillOrderWords_102 rfl ?_
        refine gb_getr (r := 75) f_X10_92 (hS 0 _ rfl) rfl d_X10_fillOrderWords_103 ?_
        refine gb_iconst 3 d_X10_fillOrderWords_106 rfl ?_
        refine gb_aload_n d_X10_fillOrderWords_107 rfl ?_
        refine gb_getr (r := 57) f_X10_79 (hS 0 _ rfl) rfl d_X10_fillOrderWords_108 ?_
        obtain ⟨r9, e10, h⟩ := gb_bd_e h
        refine gb_cVi (As := []) (rest := [.int 3, .ref 75]) m_X10_256 (t_X1_hundredths (Γ := Γ) hS e10) (hS 57 _ rfl) rfl (Nat.le_of_ble_eq_true rfl) rfl rfl (Nat.le_of_ble_eq_true rfl) d_X10_fillOrderWords_111 ?_
        refine gb_iast_ 3 rfl (hS 75 _ rfl) (by unfold vp_in; decide) d_X10_fillOrderWords_114 ?_
        have h := gb_let_e h
        generalize gb_pi r9.1 75 3 r9.2 = g11 at h ⊢
        cases h
        exact gb_vret d_X10_fillOrderWords_115 rfl ⟨rfl, rfl, rfl⟩
    · have h := gb_if hc h
      refine gb_aload_n d_X10_fillOrderWords_36 rfl ?_
      refine gb_getr (r := 75) f_X10_92 (hS 0 _ rfl) rfl d_X10_fillOrderWords_37 ?_
      refine gb_iconst 5 d_X10_fillOrderWords_40 rfl ?_
      refine gb_iload_n d_X10_fillOrderWords_41 rfl ?_
      refine gb_iadd d_X10_fillOrderWords_42 ?_
      refine gb_aload_n d_X10_fillOrderWords_43 rfl ?_
      refine gb_getr (r := 1) f_X10_14 (hS 0 _ rfl) rfl d_X10_fillOrderWords_44 ?_
      refine gb_iload_n d_X10_fillOrderWords_47 rfl ?_
      refine gb_iconst 1 d_X10_fillOrderWords_48 rfl ?_
      obtain ⟨r12, e13, h⟩ := gb_bd_e h
      refine gb_cVi (As := [.int y2, .int 1]) (rest := [.int (5 + y2), .ref 75]) m_X10_136 (t_X0_read (Γ := Γ) hS (ok_X0_1 hS) e13) (ok_X0_1 hS).1 rfl (Nat.le_of_ble_eq_true rfl) rfl rfl (Nat.le_of_ble_eq_true rfl) d_X10_fillOrderWords_49 ?_
      obtain ⟨hi14, h⟩ := gb_ck_e h
      refine gb_iast_ ((5 + y2).toNatClampNeg) rfl (hS 75 _ rfl) hi14 d_X10_fillOrderWords_52 ?_
      have h := gb_let_e h
      generalize gb_pi r12.1 75 ((5 + y2).toNatClampNeg) r12.2 = g15 at h ⊢
      refine gb_aload_n d_X10_fillOrderWords_53 rfl ?_
      refine gb_getr (r := 75) f_X10_92 (hS 0 _ rfl) rfl d_X10_fillOrderWords_54 ?_
      refine gb_bipush 13 d_X10_fillOrderWords_57 rfl ?_
      refine gb_iload_n d_X10_fillOrderWords_59 rfl ?_
      refine gb_iadd d_X10_fillOrderWords_60 ?_
      refine gb_aload_n d_X10_fillOrderWords_61 rfl ?_
      refine gb_getr (r := 1) f_X10_14 (hS 0 _ rfl) rfl d_X10_fillOrderWords_62 ?_
      refine gb_iload_n d_X10_fillOrderWords_65 rfl ?_
      refine gb_iconst 2 d_X10_fillOrderWords_66 rfl ?_
      obtain ⟨r16, e17, h⟩ := gb_bd_e h
      refine gb_cVi (As := [.int y2, .int 2]) (rest := [.int (13 + y2), .ref 75]) m_X10_136 (t_X0_read (Γ := Γ) hS (ok_X0_1 hS) e17) (ok_X0_1 hS).1 rfl (Nat.le_of_ble_eq_true rfl) rfl rfl (Nat.le_of_ble_eq_true rfl) d_X10_fillOrderWords_67 ?_
      obtain ⟨hi18, h⟩ := gb_ck_e h
      refine gb_iast_ ((13 + y2).toNatClampNeg) rfl (hS 75 _ rfl) hi18 d_X10_fillOrderWords_70 ?_
      have h := gb_let_e h
      generalize gb_pi r16.1 75 ((13 + y2).toNatClampNeg) r16.2 = g19 at h ⊢
      refine gb_iinc (y2 + 1) [(2, .int (y2 + 1)), (0, .ref 0), (1, .ref 46)] d_X10_fillOrderWords_71 (Nat.le_of_ble_eq_true rfl) rfl rfl rfl ?_
      refine gb_goto 30 d_X10_fillOrderWords_74 (by decide) ?_
      refine gb_pick (lv' := [(0, .ref 0), (1, .ref 46), (2, .int (y2 + 1))]) [1, 2, 0] rfl ?_
      exact ih _ (y2 + 1) h
set_option maxRecDepth 100000 in
set_option maxHeartbeats 4000000 in
theorem t_X10_fillOrderWords {Γ : gb_X} {sh : List gb_Sh} {out : gb_G} (hS : gb_S sh) {g : gb_G} (h : f_X10_fillOrderWords sh g = some out) : gb_C Γ M_X10_fillOrderWords 4 0 0 sh g [.ref 0, .ref 46] (gb_Rv sh out) := by
  refine gb_C.of rfl (Nat.le_of_ble_eq_true rfl) ?_
  refine gb_pick (lv' := [(0, .ref 0), (1, .ref 46)]) [0, 1] rfl ?_
  unfold f_X10_fillOrderWords at h
  refine gb_aload_n d_X10_fillOrderWords_0 rfl ?_
  refine gb_getr (r := 75) f_X10_92 (hS 0 _ rfl) rfl d_X10_fillOrderWords_1 ?_
  refine gb_iconst 0 d_X10_fillOrderWords_4 rfl ?_
  refine gb_aload_n d_X10_fillOrderWords_5 rfl ?_
  refine gb_getr (r := 1) f_X10_14 (hS 0 _ rfl) rfl d_X10_fillOrderWords_6 ?_
  refine gb_getr (r := (1 + 4)) f_X10_169 (ok_X0_1 hS).1 rfl d_X10_fillOrderWords_9 ?_
  refine gb_iconst 0 d_X10_fillOrderWords_12 rfl ?_
  refine gb_iald_ 0 rfl (ok_X0_1 hS).2.2.2.2.1 (by unfold vp_in; decide) d_X10_fillOrderWords_13 ?_
  refine gb_iast_ 0 rfl (hS 75 _ rfl) (by unfold vp_in; decide) d_X10_fillOrderWords_14 ?_
  have h := gb_let_e h
  generalize gb_pi g 75 0 (g.1 (1 + 4) 0) = g1 at h ⊢
  refine gb_aload_n d_X10_fillOrderWords_15 rfl ?_
  refine gb_getr (r := 75) f_X10_92 (hS 0 _ rfl) rfl d_X10_fillOrderWords_16 ?_
  refine gb_iconst 4 d_X10_fillOrderWords_19 rfl ?_
  refine gb_aload_n d_X10_fillOrderWords_20 rfl ?_
  refine gb_getr (r := 1) f_X10_14 (hS 0 _ rfl) rfl d_X10_fillOrderWords_21 ?_
  obtain ⟨r2, e3, h⟩ := gb_bd_e h
  refine gb_cVi (As := []) (rest := [.int 4, .ref 75]) m_X10_245 (t_X0_lackingCount (Γ := Γ) hS (ok_X0_1 hS) e3) (ok_X0_1 hS).1 rfl (Nat.le_of_ble_eq_true rfl) rfl rfl (Nat.le_of_ble_eq_true rfl) d_X10_fillOrderWords_24 ?_
  refine gb_iast_ 4 rfl (hS 75 _ rfl) (by unfold vp_in; decide) d_X10_fillOrderWords_27 ?_
  have h := gb_let_e h
  generalize gb_pi r2.1 75 4 r2.2 = g4 at h ⊢
  refine gb_iconst 0 d_X10_fillOrderWords_28 rfl ?_
  refine gb_istore_n [(2, .int 0), (0, .ref 0), (1, .ref 46)] d_X10_fillOrderWords_29 (Nat.le_of_ble_eq_true rfl) rfl ?_
  refine gb_pick (lv' := [(0, .ref 0), (1, .ref 46), (2, .int 0)]) [1, 2, 0] rfl ?_
  exact t_X10_fillOrderWords_30 hS  gb_N _ 0 h
-- X10_passMonth
noncomputable def f_X10_passMonth (sh : List gb_Sh) (g : gb_G) : Option (gb_G × Int32) := if (g.1 (1 + 4) 0) < 999 then (gb_bd (f_X3_remember sh g 33 3 (-1) 1) (fun r1 => gb_bd (f_X4_moveAll sh r1 1) (fun r3 => some (r3, (r3.1 (1 + 4) 0))))) else (some (g, (-3)))
set_option maxRecDepth 100000 in
set_option maxHeartbeats 4000000 in
theorem t_X10_passMonth {Γ : gb_X} {sh : List gb_Sh} {out : gb_G × Int32} (hS : gb_S sh) {g : gb_G} (h : f_X10_passMonth sh g = some out) : gb_C Γ M_X10_passMonth 4 0 0 sh g [.ref 0] (gb_Ri sh out) := by
  refine gb_C.of rfl (Nat.le_of_ble_eq_true rfl) ?_
  refine gb_pick (lv' := [(0, .ref 0)]) [0] rfl ?_
  unfold f_X10_passMonth at h
  refine gb_aload_n d_X10_passMonth_0 rfl ?_
  refine gb_getr (r := 1) f_X10_14 (hS 0 _ rfl) rfl d_X10_passMonth_1 ?_
  refine gb_getr (r := (1 + 4)) f_X10_169 (ok_X0_1 hS).1 rfl d_X10_passMonth_4 ?_
  refine gb_iconst 0 d_X10_passMonth_7 rfl ?_
  refine gb_iald_ 0 rfl (ok_X0_1 hS).2.2.2.2.1 (by unfold vp_in; decide) d_X10_passMonth_8 ?_
  refine gb_sipush 999 d_X10_passMonth_9 rfl ?_
  refine gb_icmp_lt 18 d_X10_passMonth_12 (by decide) (fun hc => ?_) (fun hc => ?_)
  · have h := gb_it hc h
    refine gb_aload_n d_X10_passMonth_18 rfl ?_
    refine gb_getr (r := 33) f_X10_35 (hS 0 _ rfl) rfl d_X10_passMonth_19 ?_
    refine gb_iconst 3 d_X10_passMonth_22 rfl ?_
    refine gb_iconst (-1) d_X10_passMonth_23 rfl ?_
    refine gb_aload_n d_X10_passMonth_24 rfl ?_
    refine gb_getr (r := 1) f_X10_14 (hS 0 _ rfl) rfl d_X10_passMonth_25 ?_
    obtain ⟨r1, e2, h⟩ := gb_bd_e h
    refine gb_cVv (As := [.int 3, .int (-1), .ref 1]) (rest := []) m_X10_259 (t_X3_remember (Γ := Γ) hS (ok_X3_33 hS) (ok_X0_1 hS) e2) (ok_X3_33 hS).1 rfl (Nat.le_of_ble_eq_true rfl) rfl rfl (Nat.le_of_ble_eq_true rfl) d_X10_passMonth_28 ?_
    refine gb_aload_n d_X10_passMonth_31 rfl ?_
    refine gb_getr (r := 54) f_X10_70 (hS 0 _ rfl) rfl d_X10_passMonth_32 ?_
    refine gb_aload_n d_X10_passMonth_35 rfl ?_
    refine gb_getr (r := 1) f_X10_14 (hS 0 _ rfl) rfl d_X10_passMonth_36 ?_
    obtain ⟨r3, e4, h⟩ := gb_bd_e h
    refine gb_cVv (As := [.ref 1]) (rest := []) m_X10_263 (t_X4_moveAll (Γ := Γ) hS (ok_X0_1 hS) e4) (hS 54 _ rfl) rfl (Nat.le_of_ble_eq_true rfl) rfl rfl (Nat.le_of_ble_eq_true rfl) d_X10_passMonth_39 ?_
    refine gb_aload_n d_X10_passMonth_42 rfl ?_
    refine gb_getr (r := 1) f_X10_14 (hS 0 _ rfl) rfl d_X10_passMonth_43 ?_
    refine gb_getr (r := (1 + 4)) f_X10_169 (ok_X0_1 hS).1 rfl d_X10_passMonth_46 ?_
    refine gb_iconst 0 d_X10_passMonth_49 rfl ?_
    refine gb_iald_ 0 rfl (ok_X0_1 hS).2.2.2.2.1 (by unfold vp_in; decide) d_X10_passMonth_50 ?_
    cases h
    exact gb_iret d_X10_passMonth_51 rfl ⟨rfl, rfl, rfl⟩
  · have h := gb_if hc h
    refine gb_bipush (-3) d_X10_passMonth_15 rfl ?_
    cases h
    exact gb_iret d_X10_passMonth_17 rfl ⟨rfl, rfl, rfl⟩
-- X10_runOnce
noncomputable def f_X10_runOnce_169 (sh : List gb_Sh) (g : gb_G)  : Option (gb_G × Int32) := gb_let (gb_pi g 75 1 ((g.1 75 1) + 1)) (fun g14 => some (g14, 1))
noncomputable def f_X10_runOnce_144 (sh : List gb_Sh) (g : gb_G) (y2 : Int32) (y5 : Int32) : Option (gb_G × Int32) := if 0 ≤ y5 then (gb_ck y2 (gb_ln sh (46 + 3)) (if (g.1 (46 + 3) y2.toNatClampNeg) = 2 then (gb_let (gb_pi g 75 2 y5) (fun g15 => f_X10_runOnce_169 sh g15 )) else (f_X10_runOnce_169 sh g ))) else (some (g, 0))
noncomputable def f_X10_runOnce (sh : List gb_Sh) (g : gb_G) (x2 : Int32) : Option (gb_G × Int32) := gb_bd (f_X10_fillOrderWords sh g) (fun r1 => gb_bd (f_X5_run sh r1 46 x2 2 75 21) (fun r3 => if r3.2 = 1 then (gb_bd (f_X5_run sh r3.1 46 x2 0 75 21) (fun r5 => gb_bd (f_X5_run sh r5.1 46 x2 1 75 21) (fun r7 => if r5.2 = (-2147483648) then (some (r7.1, 0)) else (if r7.2 = (-2147483648) then (some (r7.1, 0)) else (gb_ck x2 (gb_ln sh (46 + 3)) (if (r7.1.1 (46 + 3) x2.toNatClampNeg) = 0 then (gb_bd (f_X10_changeLacking sh r7.1 r5.2 1) (fun r11 => f_X10_runOnce_144 sh r11.1 x2 r11.2)) else if (r7.1.1 (46 + 3) x2.toNatClampNeg) = 1 then (gb_bd (f_X10_changeLacking sh r7.1 r5.2 0) (fun r17 => f_X10_runOnce_144 sh r17.1 x2 r17.2)) else if (r7.1.1 (46 + 3) x2.toNatClampNeg) = 2 then (gb_bd (f_X10_changeWeight sh r7.1 r5.2 r7.2) (fun r20 => f_X10_runOnce_144 sh r20.1 x2 r20.2)) else (gb_bd (f_X10_passMonth sh r7.1) (fun r22 => f_X10_runOnce_144 sh r22.1 x2 r22.2)))))))) else (some (r3.1, 1))))
set_option maxRecDepth 100000 in
set_option maxHeartbeats 4000000 in
theorem t_X10_runOnce_169 {Γ : gb_X} {sh : List gb_Sh} {out : gb_G × Int32} (hS : gb_S sh) : ∀ (g : gb_G) , f_X10_runOnce_169 sh g  = some out → gb_J Γ M_X10_runOnce 5 (gb_Ri sh out) 0 0 sh g 169 [(0, .ref 0)] [] := by
  intro g  h
  unfold f_X10_runOnce_169 at h
  refine gb_aload_n d_X10_runOnce_169 rfl ?_
  refine gb_getr (r := 75) f_X10_92 (hS 0 _ rfl) rfl d_X10_runOnce_170 ?_
  refine gb_iconst 1 d_X10_runOnce_173 rfl ?_
  refine gb_dup2 d_X10_runOnce_174 rfl rfl ?_
  refine gb_iald_ 1 rfl (hS 75 _ rfl) (by unfold vp_in; decide) d_X10_runOnce_175 ?_
  refine gb_iconst 1 d_X10_runOnce_176 rfl ?_
  refine gb_iadd d_X10_runOnce_177 ?_
  refine gb_iast_ 1 rfl (hS 75 _ rfl) (by unfold vp_in; decide) d_X10_runOnce_178 ?_
  have h := gb_let_e h
  generalize gb_pi g 75 1 ((g.1 75 1) + 1) = g14 at h ⊢
  refine gb_iconst 1 d_X10_runOnce_179 rfl ?_
  cases h
  exact gb_zret d_X10_runOnce_180 rfl rfl ⟨rfl, rfl, rfl⟩
set_option maxRecDepth 100000 in
set_option maxHeartbeats 4000000 in
theorem t_X10_runOnce_144 {Γ : gb_X} {sh : List gb_Sh} {out : gb_G × Int32} (hS : gb_S sh) : ∀ (g : gb_G) (y2 : Int32) (y5 : Int32), f_X10_runOnce_144 sh g y2 y5 = some out → gb_J Γ M_X10_runOnce 5 (gb_Ri sh out) 0 0 sh g 144 [(0, .ref 0), (1, .ref 46), (2, .int y2), (5, .int y5)] [] := by
  intro g y2 y5 h
  unfold f_X10_runOnce_144 at h
  refine gb_iload d_X10_runOnce_144 rfl ?_
  refine gb_if_ge 151 d_X10_runOnce_146 (by decide) (fun hc => ?_) (fun hc => ?_)
  · have h := gb_it hc h
    refine gb_aload_n d_X10_runOnce_151 rfl ?_
    refine gb_getr (r := (46 + 3)) f_X10_232 (ok_X7_46 hS).1 rfl d_X10_runOnce_152 ?_
    refine gb_iload_n d_X10_runOnce_155 rfl ?_
    obtain ⟨hi13, h⟩ := gb_ck_e h
    refine gb_iald_ y2.toNatClampNeg rfl (ok_X7_46 hS).2.2.2.1 hi13 d_X10_runOnce_156 ?_
    refine gb_iconst 2 d_X10_runOnce_157 rfl ?_
    refine gb_icmp_ne 169 d_X10_runOnce_158 (by decide) (fun hc => ?_) (fun hc => ?_)
    · have h := gb_if hc h
      refine gb_pick (lv' := [(0, .ref 0)]) [0] rfl ?_
      exact t_X10_runOnce_169 hS  _  h
    · have h := gb_it hc h
      refine gb_aload_n d_X10_runOnce_161 rfl ?_
      refine gb_getr (r := 75) f_X10_92 (hS 0 _ rfl) rfl d_X10_runOnce_162 ?_
      refine gb_iconst 2 d_X10_runOnce_165 rfl ?_
      refine gb_iload d_X10_runOnce_166 rfl ?_
      refine gb_iast_ 2 rfl (hS 75 _ rfl) (by unfold vp_in; decide) d_X10_runOnce_168 ?_
      have h := gb_let_e h
      generalize gb_pi g 75 2 y5 = g15 at h ⊢
      refine gb_pick (lv' := [(0, .ref 0)]) [0] rfl ?_
      exact t_X10_runOnce_169 hS  _  h
  · have h := gb_if hc h
    refine gb_iconst 0 d_X10_runOnce_149 rfl ?_
    cases h
    exact gb_zret d_X10_runOnce_150 rfl rfl ⟨rfl, rfl, rfl⟩
set_option maxRecDepth 100000 in
set_option maxHeartbeats 4000000 in
theorem t_X10_runOnce {Γ : gb_X} {sh : List gb_Sh} {x2 : Int32} {out : gb_G × Int32} (hS : gb_S sh) {g : gb_G} (h : f_X10_runOnce sh g x2 = some out) : gb_C Γ M_X10_runOnce 5 0 0 sh g [.ref 0, .ref 46, .int x2] (gb_Ri sh out) := by
  refine gb_C.of rfl (Nat.le_of_ble_eq_true rfl) ?_
  refine gb_pick (lv' := [(0, .ref 0), (1, .ref 46), (2, .int x2)]) [0, 1, 2] rfl ?_
  unfold f_X10_runOnce at h
  refine gb_aload_n d_X10_runOnce_0 rfl ?_
  refine gb_aload_n d_X10_runOnce_1 rfl ?_
  obtain ⟨r1, e2, h⟩ := gb_bd_e h
  refine gb_cVv (As := [.ref 46]) (rest := []) m_X10_224 (t_X10_fillOrderWords (Γ := Γ) hS e2) (hS 0 _ rfl) rfl (Nat.le_of_ble_eq_true rfl) rfl rfl (Nat.le_of_ble_eq_true rfl) d_X10_runOnce_2 ?_
  refine gb_aload_n d_X10_runOnce_5 rfl ?_
  refine gb_getr (r := 52) f_X10_61 (hS 0 _ rfl) rfl d_X10_runOnce_6 ?_
  refine gb_aload_n d_X10_runOnce_9 rfl ?_
  refine gb_iload_n d_X10_runOnce_10 rfl ?_
  refine gb_iconst 2 d_X10_runOnce_11 rfl ?_
  refine gb_aload_n d_X10_runOnce_12 rfl ?_
  refine gb_getr (r := 75) f_X10_92 (hS 0 _ rfl) rfl d_X10_runOnce_13 ?_
  obtain ⟨r3, e4, h⟩ := gb_bd_e h
  refine gb_cVi (As := [.ref 46, .int x2, .int 2, .ref 75]) (rest := []) m_X10_227 (t_X5_run (Γ := Γ) hS (ok_X7_46 hS) (hS 75 _ rfl) e4) (hS 52 _ rfl) rfl (Nat.le_of_ble_eq_true rfl) rfl rfl (Nat.le_of_ble_eq_true rfl) d_X10_runOnce_16 ?_
  refine gb_iconst 1 d_X10_runOnce_19 rfl ?_
  refine gb_icmp_eq 25 d_X10_runOnce_20 (by decide) (fun hc => ?_) (fun hc => ?_)
  · have h := gb_it hc h
    refine gb_aload_n d_X10_runOnce_25 rfl ?_
    refine gb_getr (r := 52) f_X10_61 (hS 0 _ rfl) rfl d_X10_runOnce_26 ?_
    refine gb_aload_n d_X10_runOnce_29 rfl ?_
    refine gb_iload_n d_X10_runOnce_30 rfl ?_
    refine gb_iconst 0 d_X10_runOnce_31 rfl ?_
    refine gb_aload_n d_X10_runOnce_32 rfl ?_
    refine gb_getr (r := 75) f_X10_92 (hS 0 _ rfl) rfl d_X10_runOnce_33 ?_
    obtain ⟨r5, e6, h⟩ := gb_bd_e h
    refine gb_cVi (As := [.ref 46, .int x2, .int 0, .ref 75]) (rest := []) m_X10_227 (t_X5_run (Γ := Γ) hS (ok_X7_46 hS) (hS 75 _ rfl) e6) (hS 52 _ rfl) rfl (Nat.le_of_ble_eq_true rfl) rfl rfl (Nat.le_of_ble_eq_true rfl) d_X10_runOnce_36 ?_
    refine gb_istore_n [(3, .int r5.2), (0, .ref 0), (1, .ref 46), (2, .int x2)] d_X10_runOnce_39 (Nat.le_of_ble_eq_true rfl) rfl ?_
    refine gb_aload_n d_X10_runOnce_40 rfl ?_
    refine gb_getr (r := 52) f_X10_61 (hS 0 _ rfl) rfl d_X10_runOnce_41 ?_
    refine gb_aload_n d_X10_runOnce_44 rfl ?_
    refine gb_iload_n d_X10_runOnce_45 rfl ?_
    refine gb_iconst 1 d_X10_runOnce_46 rfl ?_
    refine gb_aload_n d_X10_runOnce_47 rfl ?_
    refine gb_getr (r := 75) f_X10_92 (hS 0 _ rfl) rfl d_X10_runOnce_48 ?_
    obtain ⟨r7, e8, h⟩ := gb_bd_e h
    refine gb_cVi (As := [.ref 46, .int x2, .int 1, .ref 75]) (rest := []) m_X10_227 (t_X5_run (Γ := Γ) hS (ok_X7_46 hS) (hS 75 _ rfl) e8) (hS 52 _ rfl) rfl (Nat.le_of_ble_eq_true rfl) rfl rfl (Nat.le_of_ble_eq_true rfl) d_X10_runOnce_51 ?_
    refine gb_istore [(4, .int r7.2), (3, .int r5.2), (0, .ref 0), (1, .ref 46), (2, .int x2)] d_X10_runOnce_54 (Nat.le_of_ble_eq_true rfl) rfl ?_
    refine gb_iload_n d_X10_runOnce_56 rfl ?_
    refine gb_ldc (-2147483648) k_X10_231 d_X10_runOnce_57 ?_
    refine gb_icmp_eq 69 d_X10_runOnce_59 (by decide) (fun hc => ?_) (fun hc => ?_)
    · have h := gb_it hc h
      refine gb_iconst 0 d_X10_runOnce_69 rfl ?_
      cases h
      exact gb_zret d_X10_runOnce_70 rfl rfl ⟨rfl, rfl, rfl⟩
    · have h := gb_if hc h
      refine gb_iload d_X10_runOnce_62 rfl ?_
      refine gb_ldc (-2147483648) k_X10_231 d_X10_runOnce_64 ?_
      refine gb_icmp_ne 71 d_X10_runOnce_66 (by decide) (fun hc => ?_) (fun hc => ?_)
      · have h := gb_if hc h
        refine gb_aload_n d_X10_runOnce_71 rfl ?_
        refine gb_getr (r := (46 + 3)) f_X10_232 (ok_X7_46 hS).1 rfl d_X10_runOnce_72 ?_
        refine gb_iload_n d_X10_runOnce_75 rfl ?_
        obtain ⟨hi9, h⟩ := gb_ck_e h
        refine gb_iald_ x2.toNatClampNeg rfl (ok_X7_46 hS).2.2.2.1 hi9 d_X10_runOnce_76 ?_
        by_cases hc10 : (r7.1.1 (46 + 3) x2.toNatClampNeg) = 0
        · have h := gb_it hc10 h
          refine gb_tabI 104 hc10 d_X10_runOnce_77 (by decide) (by decide) rfl (by decide) ?_
          refine gb_aload_n d_X10_runOnce_104 rfl ?_
          refine gb_iload_n d_X10_runOnce_105 rfl ?_
          refine gb_iconst 1 d_X10_runOnce_106 rfl ?_
          obtain ⟨r11, e12, h⟩ := gb_bd_e h
          refine gb_cVi (As := [.int r5.2, .int 1]) (rest := []) m_X10_235 (t_X10_changeLacking (Γ := Γ) hS e12) (hS 0 _ rfl) rfl (Nat.le_of_ble_eq_true rfl) rfl rfl (Nat.le_of_ble_eq_true rfl) d_X10_runOnce_107 ?_
          refine gb_istore [(5, .int r11.2), (4, .int r7.2), (3, .int r5.2), (0, .ref 0), (1, .ref 46), (2, .int x2)] d_X10_runOnce_110 (Nat.le_of_ble_eq_true rfl) rfl ?_
          refine gb_goto 144 d_X10_runOnce_112 (by decide) ?_
          refine gb_pick (lv' := [(0, .ref 0), (1, .ref 46), (2, .int x2), (5, .int r11.2)]) [3, 4, 5, 0] rfl ?_
          exact t_X10_runOnce_144 hS  _ x2 r11.2 h
        replace h := gb_if hc10 h
        by_cases hc16 : (r7.1.1 (46 + 3) x2.toNatClampNeg) = 1
        · have h := gb_it hc16 h
          refine gb_tabI 115 hc16 d_X10_runOnce_77 (by decide) (by decide) rfl (by decide) ?_
          refine gb_aload_n d_X10_runOnce_115 rfl ?_
          refine gb_iload_n d_X10_runOnce_116 rfl ?_
          refine gb_iconst 0 d_X10_runOnce_117 rfl ?_
          obtain ⟨r17, e18, h⟩ := gb_bd_e h
          refine gb_cVi (As := [.int r5.2, .int 0]) (rest := []) m_X10_235 (t_X10_changeLacking (Γ := Γ) hS e18) (hS 0 _ rfl) rfl (Nat.le_of_ble_eq_true rfl) rfl rfl (Nat.le_of_ble_eq_true rfl) d_X10_runOnce_118 ?_
          refine gb_istore [(5, .int r17.2), (4, .int r7.2), (3, .int r5.2), (0, .ref 0), (1, .ref 46), (2, .int x2)] d_X10_runOnce_121 (Nat.le_of_ble_eq_true rfl) rfl ?_
          refine gb_goto 144 d_X10_runOnce_123 (by decide) ?_
          refine gb_pick (lv' := [(0, .ref 0), (1, .ref 46), (2, .int x2), (5, .int r17.2)]) [3, 4, 5, 0] rfl ?_
          exact t_X10_runOnce_144 hS  _ x2 r17.2 h
        replace h := gb_if hc16 h
        by_cases hc19 : (r7.1.1 (46 + 3) x2.toNatClampNeg) = 2
        · have h := gb_it hc19 h
          refine gb_tabI 126 hc19 d_X10_runOnce_77 (by decide) (by decide) rfl (by decide) ?_
          refine gb_aload_n d_X10_runOnce_126 rfl ?_
          refine gb_iload_n d_X10_runOnce_127 rfl ?_
          refine gb_iload d_X10_runOnce_128 rfl ?_
          obtain ⟨r20, e21, h⟩ := gb_bd_e h
          refine gb_cVi (As := [.int r5.2, .int r7.2]) (rest := []) m_X10_238 (t_X10_changeWeight (Γ := Γ) hS e21) (hS 0 _ rfl) rfl (Nat.le_of_ble_eq_true rfl) rfl rfl (Nat.le_of_ble_eq_true rfl) d_X10_runOnce_130 ?_
          refine gb_istore [(5, .int r20.2), (4, .int r7.2), (3, .int r5.2), (0, .ref 0), (1, .ref 46), (2, .int x2)] d_X10_runOnce_133 (Nat.le_of_ble_eq_true rfl) rfl ?_
          refine gb_goto 144 d_X10_runOnce_135 (by decide) ?_
          refine gb_pick (lv' := [(0, .ref 0), (1, .ref 46), (2, .int x2), (5, .int r20.2)]) [3, 4, 5, 0] rfl ?_
          exact t_X10_runOnce_144 hS  _ x2 r20.2 h
        replace h := gb_if hc19 h
        refine gb_tabO 138 d_X10_runOnce_77 (gb_out 3 (by decide) (by decide) (by decide) (fun i hi => match i, hi with | 0, _ => hc10 | 1, _ => hc16 | 2, _ => hc19 | q + 3, h9 => absurd h9 (Nat.not_lt.mpr (Nat.le_add_left _ _)))) (by decide) ?_
        refine gb_aload_n d_X10_runOnce_138 rfl ?_
        obtain ⟨r22, e23, h⟩ := gb_bd_e h
        refine gb_cVi (As := []) (rest := []) m_X10_241 (t_X10_passMonth (Γ := Γ) hS e23) (hS 0 _ rfl) rfl (Nat.le_of_ble_eq_true rfl) rfl rfl (Nat.le_of_ble_eq_true rfl) d_X10_runOnce_139 ?_
        refine gb_istore [(5, .int r22.2), (4, .int r7.2), (3, .int r5.2), (0, .ref 0), (1, .ref 46), (2, .int x2)] d_X10_runOnce_142 (Nat.le_of_ble_eq_true rfl) rfl ?_
        refine gb_pick (lv' := [(0, .ref 0), (1, .ref 46), (2, .int x2), (5, .int r22.2)]) [3, 4, 5, 0] rfl ?_
        exact t_X10_runOnce_144 hS  _ x2 r22.2 h
      · have h := gb_it hc h
        refine gb_iconst 0 d_X10_runOnce_69 rfl ?_
        cases h
        exact gb_zret d_X10_runOnce_70 rfl rfl ⟨rfl, rfl, rfl⟩
  · have h := gb_if hc h
    refine gb_iconst 1 d_X10_runOnce_23 rfl ?_
    cases h
    exact gb_zret d_X10_runOnce_24 rfl rfl ⟨rfl, rfl, rfl⟩
-- X10_fault
noncomputable def f_X10_fault (sh : List gb_Sh) (g : gb_G) : Option (gb_G × Int32) := some (g, (g.1 0 15))
set_option maxRecDepth 100000 in
set_option maxHeartbeats 4000000 in
theorem t_X10_fault {Γ : gb_X} {sh : List gb_Sh} {out : gb_G × Int32} (hS : gb_S sh) {g : gb_G} (h : f_X10_fault sh g = some out) : gb_C Γ M_X10_fault 0 0 0 sh g [.ref 0] (gb_Ri sh out) := by
  refine gb_C.of rfl (Nat.le_of_ble_eq_true rfl) ?_
  refine gb_pick (lv' := [(0, .ref 0)]) [0] rfl ?_
  unfold f_X10_fault at h
  refine gb_aload_n d_X10_fault_0 rfl ?_
  refine gb_geti f_X10_98 (hS 0 _ rfl) rfl d_X10_fault_1 ?_
  cases h
  exact gb_iret d_X10_fault_4 rfl ⟨rfl, rfl, rfl⟩
-- X10_stopped
noncomputable def f_X10_stopped (sh : List gb_Sh) (g : gb_G) : Option (gb_G × Int32) := some (g, (g.1 0 17))
set_option maxRecDepth 100000 in
set_option maxHeartbeats 4000000 in
theorem t_X10_stopped {Γ : gb_X} {sh : List gb_Sh} {out : gb_G × Int32} (hS : gb_S sh) {g : gb_G} (h : f_X10_stopped sh g = some out) : gb_C Γ M_X10_stopped 0 0 0 sh g [.ref 0] (gb_Ri sh out) := by
  refine gb_C.of rfl (Nat.le_of_ble_eq_true rfl) ?_
  refine gb_pick (lv' := [(0, .ref 0)]) [0] rfl ?_
  unfold f_X10_stopped at h
  refine gb_aload_n d_X10_stopped_0 rfl ?_
  refine gb_geti f_X10_105 (hS 0 _ rfl) rfl d_X10_stopped_1 ?_
  cases h
  exact gb_iret d_X10_stopped_4 rfl ⟨rfl, rfl, rfl⟩
-- X10_force
noncomputable def f_X10_force_29 (sh : List gb_Sh) (g : gb_G) (y1 : Int32) : Option (gb_G × Int32) := gb_let (gb_pi g 1 9 y1) (fun g1 => gb_bd (f_X10_grant sh g1 (g.1 1 9)) (fun r2 => some (r2.1, r2.2)))
noncomputable def f_X10_force (sh : List gb_Sh) (g : gb_G) (x1 : Int32) : Option (gb_G × Int32) := if x1 = (-1) then (f_X10_force_29 sh g x1) else (gb_bd (f_X10_within sh g x1 0 ((g.1 1 7) - 1)) (fun r4 => if r4.2 = 0 then (gb_bd (f_X10_refuse sh r4.1 (-2)) (fun r6 => some (r6.1, r6.2))) else (f_X10_force_29 sh r4.1 x1)))
set_option maxRecDepth 100000 in
set_option maxHeartbeats 4000000 in
theorem t_X10_force_29 {Γ : gb_X} {sh : List gb_Sh} {out : gb_G × Int32} (hS : gb_S sh) : ∀ (g : gb_G) (y1 : Int32), f_X10_force_29 sh g y1 = some out → gb_J Γ M_X10_force 2 (gb_Ri sh out) 0 0 sh g 29 [(0, .ref 0), (1, .int y1)] [] := by
  intro g y1 h
  unfold f_X10_force_29 at h
  refine gb_aload_n d_X10_force_29 rfl ?_
  refine gb_getr (r := 1) f_X10_14 (hS 0 _ rfl) rfl d_X10_force_30 ?_
  refine gb_geti f_X10_221 (ok_X0_1 hS).1 rfl d_X10_force_33 ?_
  refine gb_istore_n [(2, .int (g.1 1 9)), (0, .ref 0), (1, .int y1)] d_X10_force_36 (Nat.le_of_ble_eq_true rfl) rfl ?_
  refine gb_aload_n d_X10_force_37 rfl ?_
  refine gb_getr (r := 1) f_X10_14 (hS 0 _ rfl) rfl d_X10_force_38 ?_
  refine gb_iload_n d_X10_force_41 rfl ?_
  refine gb_puti f_X10_221 (fun h => nomatch h) (ok_X0_1 hS).1 rfl rfl rfl d_X10_force_42 ?_
  have h := gb_let_e h
  generalize gb_pi g 1 9 y1 = g1 at h ⊢
  refine gb_aload_n d_X10_force_45 rfl ?_
  refine gb_iload_n d_X10_force_46 rfl ?_
  obtain ⟨r2, e3, h⟩ := gb_bd_e h
  refine gb_cVi (As := [.int (g.1 1 9)]) (rest := []) m_X10_133 (t_X10_grant (Γ := Γ) hS e3) (hS 0 _ rfl) rfl (Nat.le_of_ble_eq_true rfl) rfl rfl (Nat.le_of_ble_eq_true rfl) d_X10_force_47 ?_
  cases h
  exact gb_iret d_X10_force_50 rfl ⟨rfl, rfl, rfl⟩
set_option maxRecDepth 100000 in
set_option maxHeartbeats 4000000 in
theorem t_X10_force {Γ : gb_X} {sh : List gb_Sh} {x1 : Int32} {out : gb_G × Int32} (hS : gb_S sh) {g : gb_G} (h : f_X10_force sh g x1 = some out) : gb_C Γ M_X10_force 2 0 0 sh g [.ref 0, .int x1] (gb_Ri sh out) := by
  refine gb_C.of rfl (Nat.le_of_ble_eq_true rfl) ?_
  refine gb_pick (lv' := [(0, .ref 0), (1, .int x1)]) [0, 1] rfl ?_
  unfold f_X10_force at h
  refine gb_iload_n d_X10_force_0 rfl ?_
  refine gb_iconst (-1) d_X10_force_1 rfl ?_
  refine gb_icmp_eq 29 d_X10_force_2 (by decide) (fun hc => ?_) (fun hc => ?_)
  · have h := gb_it hc h
    exact t_X10_force_29 hS  _ x1 h
  · have h := gb_if hc h
    refine gb_iload_n d_X10_force_5 rfl ?_
    refine gb_iconst 0 d_X10_force_6 rfl ?_
    refine gb_aload_n d_X10_force_7 rfl ?_
    refine gb_getr (r := 1) f_X10_14 (hS 0 _ rfl) rfl d_X10_force_8 ?_
    refine gb_geti f_X10_185 (ok_X0_1 hS).1 rfl d_X10_force_11 ?_
    refine gb_iconst 1 d_X10_force_14 rfl ?_
    refine gb_isub d_X10_force_15 ?_
    obtain ⟨r4, e5, h⟩ := gb_bd_e h
    refine gb_cSi (As := [.int x1, .int 0, .int ((g.1 1 7) - 1)]) (rest := []) m_X10_115 (t_X10_within (Γ := Γ) hS e5) (Nat.le_of_ble_eq_true rfl) rfl rfl (Nat.le_of_ble_eq_true rfl) d_X10_force_16 ?_
    refine gb_if_ne 29 d_X10_force_19 (by decide) (fun hc => ?_) (fun hc => ?_)
    · have h := gb_if hc h
      exact t_X10_force_29 hS  _ x1 h
    · have h := gb_it hc h
      refine gb_aload_n d_X10_force_22 rfl ?_
      refine gb_bipush (-2) d_X10_force_23 rfl ?_
      obtain ⟨r6, e7, h⟩ := gb_bd_e h
      refine gb_cVi (As := [.int (-2)]) (rest := []) m_X10_119 (t_X10_refuse (Γ := Γ) hS e7) (hS 0 _ rfl) rfl (Nat.le_of_ble_eq_true rfl) rfl rfl (Nat.le_of_ble_eq_true rfl) d_X10_force_25 ?_
      cases h
      exact gb_iret d_X10_force_28 rfl ⟨rfl, rfl, rfl⟩
-- X10_settle
noncomputable def f_X10_settle (sh : List gb_Sh) (g : gb_G) (x1 : Int32) : Option (gb_G × Int32) := if 0 ≤ x1 then (gb_bd (f_X10_grant sh g x1) (fun r1 => some (r1.1, r1.2))) else (gb_bd (f_X10_refuse sh g x1) (fun r3 => some (r3.1, r3.2)))
set_option maxRecDepth 100000 in
set_option maxHeartbeats 4000000 in
theorem t_X10_settle {Γ : gb_X} {sh : List gb_Sh} {x1 : Int32} {out : gb_G × Int32} (hS : gb_S sh) {g : gb_G} (h : f_X10_settle sh g x1 = some out) : gb_C Γ M_X10_settle 2 0 0 sh g [.ref 0, .int x1] (gb_Ri sh out) := by
  refine gb_C.of rfl (Nat.le_of_ble_eq_true rfl) ?_
  refine gb_pick (lv' := [(0, .ref 0), (1, .int x1)]) [0, 1] rfl ?_
  unfold f_X10_settle at h
  refine gb_iload_n d_X10_settle_0 rfl ?_
  refine gb_if_ge 12 d_X10_settle_1 (by decide) (fun hc => ?_) (fun hc => ?_)
  · have h := gb_it hc h
    refine gb_aload_n d_X10_settle_12 rfl ?_
    refine gb_iload_n d_X10_settle_13 rfl ?_
    obtain ⟨r1, e2, h⟩ := gb_bd_e h
    refine gb_cVi (As := [.int x1]) (rest := []) m_X10_133 (t_X10_grant (Γ := Γ) hS e2) (hS 0 _ rfl) rfl (Nat.le_of_ble_eq_true rfl) rfl rfl (Nat.le_of_ble_eq_true rfl) d_X10_settle_14 ?_
    cases h
    exact gb_iret d_X10_settle_17 rfl ⟨rfl, rfl, rfl⟩
  · have h := gb_if hc h
    refine gb_aload_n d_X10_settle_4 rfl ?_
    refine gb_iload_n d_X10_settle_5 rfl ?_
    obtain ⟨r3, e4, h⟩ := gb_bd_e h
    refine gb_cVi (As := [.int x1]) (rest := []) m_X10_119 (t_X10_refuse (Γ := Γ) hS e4) (hS 0 _ rfl) rfl (Nat.le_of_ble_eq_true rfl) rfl rfl (Nat.le_of_ble_eq_true rfl) d_X10_settle_6 ?_
    refine gb_goto 17 d_X10_settle_9 (by decide) ?_
    cases h
    exact gb_iret d_X10_settle_17 rfl ⟨rfl, rfl, rfl⟩
-- X10_lack
noncomputable def f_X10_lack (sh : List gb_Sh) (g : gb_G) (x1 : Int32) : Option (gb_G × Int32) := gb_bd (f_X10_changeLacking sh g x1 1) (fun r1 => gb_bd (f_X10_settle sh r1.1 r1.2) (fun r3 => some (r3.1, r3.2)))
set_option maxRecDepth 100000 in
set_option maxHeartbeats 4000000 in
theorem t_X10_lack {Γ : gb_X} {sh : List gb_Sh} {x1 : Int32} {out : gb_G × Int32} (hS : gb_S sh) {g : gb_G} (h : f_X10_lack sh g x1 = some out) : gb_C Γ M_X10_lack 4 0 0 sh g [.ref 0, .int x1] (gb_Ri sh out) := by
  refine gb_C.of rfl (Nat.le_of_ble_eq_true rfl) ?_
  refine gb_pick (lv' := [(0, .ref 0), (1, .int x1)]) [0, 1] rfl ?_
  unfold f_X10_lack at h
  refine gb_aload_n d_X10_lack_0 rfl ?_
  refine gb_aload_n d_X10_lack_1 rfl ?_
  refine gb_iload_n d_X10_lack_2 rfl ?_
  refine gb_iconst 1 d_X10_lack_3 rfl ?_
  obtain ⟨r1, e2, h⟩ := gb_bd_e h
  refine gb_cVi (As := [.int x1, .int 1]) (rest := [.ref 0]) m_X10_235 (t_X10_changeLacking (Γ := Γ) hS e2) (hS 0 _ rfl) rfl (Nat.le_of_ble_eq_true rfl) rfl rfl (Nat.le_of_ble_eq_true rfl) d_X10_lack_4 ?_
  obtain ⟨r3, e4, h⟩ := gb_bd_e h
  refine gb_cVi (As := [.int r1.2]) (rest := []) m_X10_266 (t_X10_settle (Γ := Γ) hS e4) (hS 0 _ rfl) rfl (Nat.le_of_ble_eq_true rfl) rfl rfl (Nat.le_of_ble_eq_true rfl) d_X10_lack_7 ?_
  cases h
  exact gb_iret d_X10_lack_10 rfl ⟨rfl, rfl, rfl⟩
-- X10_find
noncomputable def f_X10_find (sh : List gb_Sh) (g : gb_G) (x1 : Int32) : Option (gb_G × Int32) := gb_bd (f_X10_changeLacking sh g x1 0) (fun r1 => gb_bd (f_X10_settle sh r1.1 r1.2) (fun r3 => some (r3.1, r3.2)))
set_option maxRecDepth 100000 in
set_option maxHeartbeats 4000000 in
theorem t_X10_find {Γ : gb_X} {sh : List gb_Sh} {x1 : Int32} {out : gb_G × Int32} (hS : gb_S sh) {g : gb_G} (h : f_X10_find sh g x1 = some out) : gb_C Γ M_X10_find 4 0 0 sh g [.ref 0, .int x1] (gb_Ri sh out) := by
  refine gb_C.of rfl (Nat.le_of_ble_eq_true rfl) ?_
  refine gb_pick (lv' := [(0, .ref 0), (1, .int x1)]) [0, 1] rfl ?_
  unfold f_X10_find at h
  refine gb_aload_n d_X10_find_0 rfl ?_
  refine gb_aload_n d_X10_find_1 rfl ?_
  refine gb_iload_n d_X10_find_2 rfl ?_
  refine gb_iconst 0 d_X10_find_3 rfl ?_
  obtain ⟨r1, e2, h⟩ := gb_bd_e h
  refine gb_cVi (As := [.int x1, .int 0]) (rest := [.ref 0]) m_X10_235 (t_X10_changeLacking (Γ := Γ) hS e2) (hS 0 _ rfl) rfl (Nat.le_of_ble_eq_true rfl) rfl rfl (Nat.le_of_ble_eq_true rfl) d_X10_find_4 ?_
  obtain ⟨r3, e4, h⟩ := gb_bd_e h
  refine gb_cVi (As := [.int r1.2]) (rest := []) m_X10_266 (t_X10_settle (Γ := Γ) hS e4) (hS 0 _ rfl) rfl (Nat.le_of_ble_eq_true rfl) rfl rfl (Nat.le_of_ble_eq_true rfl) d_X10_find_7 ?_
  cases h
  exact gb_iret d_X10_find_10 rfl ⟨rfl, rfl, rfl⟩
-- X10_weigh
noncomputable def f_X10_weigh (sh : List gb_Sh) (g : gb_G) (x1 : Int32) (x2 : Int32) : Option (gb_G × Int32) := gb_bd (f_X10_changeWeight sh g x1 x2) (fun r1 => gb_bd (f_X10_settle sh r1.1 r1.2) (fun r3 => some (r3.1, r3.2)))
set_option maxRecDepth 100000 in
set_option maxHeartbeats 4000000 in
theorem t_X10_weigh {Γ : gb_X} {sh : List gb_Sh} {x1 : Int32} {x2 : Int32} {out : gb_G × Int32} (hS : gb_S sh) {g : gb_G} (h : f_X10_weigh sh g x1 x2 = some out) : gb_C Γ M_X10_weigh 4 0 0 sh g [.ref 0, .int x1, .int x2] (gb_Ri sh out) := by
  refine gb_C.of rfl (Nat.le_of_ble_eq_true rfl) ?_
  refine gb_pick (lv' := [(0, .ref 0), (1, .int x1), (2, .int x2)]) [0, 1, 2] rfl ?_
  unfold f_X10_weigh at h
  refine gb_aload_n d_X10_weigh_0 rfl ?_
  refine gb_aload_n d_X10_weigh_1 rfl ?_
  refine gb_iload_n d_X10_weigh_2 rfl ?_
  refine gb_iload_n d_X10_weigh_3 rfl ?_
  obtain ⟨r1, e2, h⟩ := gb_bd_e h
  refine gb_cVi (As := [.int x1, .int x2]) (rest := [.ref 0]) m_X10_238 (t_X10_changeWeight (Γ := Γ) hS e2) (hS 0 _ rfl) rfl (Nat.le_of_ble_eq_true rfl) rfl rfl (Nat.le_of_ble_eq_true rfl) d_X10_weigh_4 ?_
  obtain ⟨r3, e4, h⟩ := gb_bd_e h
  refine gb_cVi (As := [.int r1.2]) (rest := []) m_X10_266 (t_X10_settle (Γ := Γ) hS e4) (hS 0 _ rfl) rfl (Nat.le_of_ble_eq_true rfl) rfl rfl (Nat.le_of_ble_eq_true rfl) d_X10_weigh_7 ?_
  cases h
  exact gb_iret d_X10_weigh_10 rfl ⟨rfl, rfl, rfl⟩
-- X10_pass
noncomputable def f_X10_pass (sh : List gb_Sh) (g : gb_G) : Option (gb_G × Int32) := gb_bd (f_X10_passMonth sh g) (fun r1 => gb_bd (f_X10_settle sh r1.1 r1.2) (fun r3 => some (r3.1, r3.2)))
set_option maxRecDepth 100000 in
set_option maxHeartbeats 4000000 in
theorem t_X10_pass {Γ : gb_X} {sh : List gb_Sh} {out : gb_G × Int32} (hS : gb_S sh) {g : gb_G} (h : f_X10_pass sh g = some out) : gb_C Γ M_X10_pass 5 0 0 sh g [.ref 0] (gb_Ri sh out) := by
  refine gb_C.of rfl (Nat.le_of_ble_eq_true rfl) ?_
  refine gb_pick (lv' := [(0, .ref 0)]) [0] rfl ?_
  unfold f_X10_pass at h
  refine gb_aload_n d_X10_pass_0 rfl ?_
  refine gb_aload_n d_X10_pass_1 rfl ?_
  obtain ⟨r1, e2, h⟩ := gb_bd_e h
  refine gb_cVi (As := []) (rest := [.ref 0]) m_X10_241 (t_X10_passMonth (Γ := Γ) hS e2) (hS 0 _ rfl) rfl (Nat.le_of_ble_eq_true rfl) rfl rfl (Nat.le_of_ble_eq_true rfl) d_X10_pass_2 ?_
  obtain ⟨r3, e4, h⟩ := gb_bd_e h
  refine gb_cVi (As := [.int r1.2]) (rest := []) m_X10_266 (t_X10_settle (Γ := Γ) hS e4) (hS 0 _ rfl) rfl (Nat.le_of_ble_eq_true rfl) rfl rfl (Nat.le_of_ble_eq_true rfl) d_X10_pass_5 ?_
  cases h
  exact gb_iret d_X10_pass_8 rfl ⟨rfl, rfl, rfl⟩
-- X10_undo
noncomputable def f_X10_undo (sh : List gb_Sh) (g : gb_G) : Option (gb_G × Int32) := if (g.1 33 0) = 0 then (gb_bd (f_X10_refuse sh g (-3)) (fun r5 => some (r5.1, r5.2))) else (gb_bd (f_X3_takeBack sh g 33 1) (fun r1 => gb_bd (f_X10_grant sh r1.1 r1.2) (fun r3 => some (r3.1, r3.2))))
set_option maxRecDepth 100000 in
set_option maxHeartbeats 4000000 in
theorem t_X10_undo {Γ : gb_X} {sh : List gb_Sh} {out : gb_G × Int32} (hS : gb_S sh) {g : gb_G} (h : f_X10_undo sh g = some out) : gb_C Γ M_X10_undo 4 0 0 sh g [.ref 0] (gb_Ri sh out) := by
  refine gb_C.of rfl (Nat.le_of_ble_eq_true rfl) ?_
  refine gb_pick (lv' := [(0, .ref 0)]) [0] rfl ?_
  unfold f_X10_undo at h
  refine gb_aload_n d_X10_undo_0 rfl ?_
  refine gb_getr (r := 33) f_X10_35 (hS 0 _ rfl) rfl d_X10_undo_1 ?_
  refine gb_geti f_X10_269 (ok_X3_33 hS).1 rfl d_X10_undo_4 ?_
  refine gb_if_ne 17 d_X10_undo_7 (by decide) (fun hc => ?_) (fun hc => ?_)
  · have h := gb_if hc h
    refine gb_aload_n d_X10_undo_17 rfl ?_
    refine gb_aload_n d_X10_undo_18 rfl ?_
    refine gb_getr (r := 33) f_X10_35 (hS 0 _ rfl) rfl d_X10_undo_19 ?_
    refine gb_aload_n d_X10_undo_22 rfl ?_
    refine gb_getr (r := 1) f_X10_14 (hS 0 _ rfl) rfl d_X10_undo_23 ?_
    obtain ⟨r1, e2, h⟩ := gb_bd_e h
    refine gb_cVi (As := [.ref 1]) (rest := [.ref 0]) m_X10_272 (t_X3_takeBack (Γ := Γ) hS (ok_X3_33 hS) (ok_X0_1 hS) e2) (ok_X3_33 hS).1 rfl (Nat.le_of_ble_eq_true rfl) rfl rfl (Nat.le_of_ble_eq_true rfl) d_X10_undo_26 ?_
    obtain ⟨r3, e4, h⟩ := gb_bd_e h
    refine gb_cVi (As := [.int r1.2]) (rest := []) m_X10_133 (t_X10_grant (Γ := Γ) hS e4) (hS 0 _ rfl) rfl (Nat.le_of_ble_eq_true rfl) rfl rfl (Nat.le_of_ble_eq_true rfl) d_X10_undo_29 ?_
    cases h
    exact gb_iret d_X10_undo_32 rfl ⟨rfl, rfl, rfl⟩
  · have h := gb_it hc h
    refine gb_aload_n d_X10_undo_10 rfl ?_
    refine gb_bipush (-3) d_X10_undo_11 rfl ?_
    obtain ⟨r5, e6, h⟩ := gb_bd_e h
    refine gb_cVi (As := [.int (-3)]) (rest := []) m_X10_119 (t_X10_refuse (Γ := Γ) hS e6) (hS 0 _ rfl) rfl (Nat.le_of_ble_eq_true rfl) rfl rfl (Nat.le_of_ble_eq_true rfl) d_X10_undo_13 ?_
    cases h
    exact gb_iret d_X10_undo_16 rfl ⟨rfl, rfl, rfl⟩
-- X10_figure
noncomputable def f_X10_figure_18 (sh : List gb_Sh) (g : gb_G)  : Option (gb_G × Int64) := some (g, (-1))
noncomputable def f_X10_figure (sh : List gb_Sh) (g : gb_G) (x1 : Int32) (x2 : Int32) : Option (gb_G × Int64) := gb_bd (f_X10_within sh g x1 0 3) (fun r1 => if r1.2 = 0 then (f_X10_figure_18 sh r1.1 ) else (gb_bd (f_X10_within sh r1.1 x2 0 1) (fun r3 => if r3.2 = 0 then (f_X10_figure_18 sh r3.1 ) else (gb_bd (f_X0_lawInForce sh r3.1 1) (fun r5 => gb_bd (f_X1_load sh r5.1 1 r5.2) (fun r7 => gb_bd (f_X1_byRule sh r7 x1) (fun r9 => gb_bd (f_X2_side sh r9 61 x2) (fun r11 => some (r11.1, r11.2)))))))))
set_option maxRecDepth 100000 in
set_option maxHeartbeats 4000000 in
theorem t_X10_figure_18 {Γ : gb_X} {sh : List gb_Sh} {out : gb_G × Int64} (hS : gb_S sh) : ∀ (g : gb_G) , f_X10_figure_18 sh g  = some out → gb_J Γ M_X10_figure 5 (gb_Rl sh out) 0 0 sh g 18 [] [] := by
  intro g  h
  unfold f_X10_figure_18 at h
  refine gb_ldc2 (-1) k_X10_276 d_X10_figure_18 ?_
  cases h
  exact gb_lret d_X10_figure_21 rfl ⟨rfl, rfl, rfl⟩
set_option maxRecDepth 100000 in
set_option maxHeartbeats 4000000 in
theorem t_X10_figure {Γ : gb_X} {sh : List gb_Sh} {x1 : Int32} {x2 : Int32} {out : gb_G × Int64} (hS : gb_S sh) {g : gb_G} (h : f_X10_figure sh g x1 x2 = some out) : gb_C Γ M_X10_figure 5 0 0 sh g [.ref 0, .int x1, .int x2] (gb_Rl sh out) := by
  refine gb_C.of rfl (Nat.le_of_ble_eq_true rfl) ?_
  refine gb_pick (lv' := [(0, .ref 0), (1, .int x1), (2, .int x2)]) [0, 1, 2] rfl ?_
  unfold f_X10_figure at h
  refine gb_iload_n d_X10_figure_0 rfl ?_
  refine gb_iconst 0 d_X10_figure_1 rfl ?_
  refine gb_iconst 3 d_X10_figure_2 rfl ?_
  obtain ⟨r1, e2, h⟩ := gb_bd_e h
  refine gb_cSi (As := [.int x1, .int 0, .int 3]) (rest := []) m_X10_115 (t_X10_within (Γ := Γ) hS e2) (Nat.le_of_ble_eq_true rfl) rfl rfl (Nat.le_of_ble_eq_true rfl) d_X10_figure_3 ?_
  refine gb_if_eq 18 d_X10_figure_6 (by decide) (fun hc => ?_) (fun hc => ?_)
  · have h := gb_it hc h
    refine gb_pick (lv' := []) [] rfl ?_
    exact t_X10_figure_18 hS  _  h
  · have h := gb_if hc h
    refine gb_iload_n d_X10_figure_9 rfl ?_
    refine gb_iconst 0 d_X10_figure_10 rfl ?_
    refine gb_iconst 1 d_X10_figure_11 rfl ?_
    obtain ⟨r3, e4, h⟩ := gb_bd_e h
    refine gb_cSi (As := [.int x2, .int 0, .int 1]) (rest := []) m_X10_115 (t_X10_within (Γ := Γ) hS e4) (Nat.le_of_ble_eq_true rfl) rfl rfl (Nat.le_of_ble_eq_true rfl) d_X10_figure_12 ?_
    refine gb_if_ne 22 d_X10_figure_15 (by decide) (fun hc => ?_) (fun hc => ?_)
    · have h := gb_if hc h
      refine gb_aload_n d_X10_figure_22 rfl ?_
      refine gb_getr (r := 57) f_X10_79 (hS 0 _ rfl) rfl d_X10_figure_23 ?_
      refine gb_aload_n d_X10_figure_26 rfl ?_
      refine gb_getr (r := 1) f_X10_14 (hS 0 _ rfl) rfl d_X10_figure_27 ?_
      refine gb_aload_n d_X10_figure_30 rfl ?_
      refine gb_getr (r := 1) f_X10_14 (hS 0 _ rfl) rfl d_X10_figure_31 ?_
      obtain ⟨r5, e6, h⟩ := gb_bd_e h
      refine gb_cVq (As := []) (rest := [.ref 1, .ref 57]) m_X10_145 (t_X0_lawInForce (Γ := Γ) hS (ok_X0_1 hS) e6) (ok_X0_1 hS).1 rfl (Nat.le_of_ble_eq_true rfl) rfl rfl (Nat.le_of_ble_eq_true rfl) d_X10_figure_34 ?_
      obtain ⟨r7, e8, h⟩ := gb_bd_e h
      refine gb_cVv (As := [.ref 1, va_rf r5.2]) (rest := []) m_X10_252 (t_X1_load (Γ := Γ) hS (ok_X0_1 hS) e8) (hS 57 _ rfl) rfl (Nat.le_of_ble_eq_true rfl) rfl rfl (Nat.le_of_ble_eq_true rfl) d_X10_figure_37 ?_
      refine gb_aload_n d_X10_figure_40 rfl ?_
      refine gb_getr (r := 57) f_X10_79 (hS 0 _ rfl) rfl d_X10_figure_41 ?_
      refine gb_iload_n d_X10_figure_44 rfl ?_
      obtain ⟨r9, e10, h⟩ := gb_bd_e h
      refine gb_cVr (As := [.int x1]) (rest := []) m_X10_278 (t_X1_byRule (Γ := Γ) hS e10) (hS 57 _ rfl) rfl (Nat.le_of_ble_eq_true rfl) rfl rfl (Nat.le_of_ble_eq_true rfl) d_X10_figure_45 ?_
      refine gb_iload_n d_X10_figure_48 rfl ?_
      obtain ⟨r11, e12, h⟩ := gb_bd_e h
      refine gb_cVl (As := [.int x2]) (rest := []) m_X10_282 (t_X2_side (Γ := Γ) hS (ok_X2_61 hS) e12) (ok_X2_61 hS) rfl (Nat.le_of_ble_eq_true rfl) rfl rfl (Nat.le_of_ble_eq_true rfl) d_X10_figure_49 ?_
      cases h
      exact gb_lret d_X10_figure_52 rfl ⟨rfl, rfl, rfl⟩
    · have h := gb_it hc h
      refine gb_pick (lv' := []) [] rfl ?_
      exact t_X10_figure_18 hS  _  h
-- X10_turned
noncomputable def f_X10_turned_18 (sh : List gb_Sh) (g : gb_G)  : Option (gb_G × Int64) := some (g, (-1))
noncomputable def f_X10_turned (sh : List gb_Sh) (g : gb_G) (x1 : Int32) (x2 : Int32) : Option (gb_G × Int64) := gb_bd (f_X10_within sh g x1 0 3) (fun r1 => if r1.2 = 0 then (f_X10_turned_18 sh r1.1 ) else (gb_bd (f_X10_within sh r1.1 x2 0 1) (fun r3 => if r3.2 = 0 then (f_X10_turned_18 sh r3.1 ) else (gb_bd (f_X0_lawInForce sh r3.1 1) (fun r5 => gb_bd (f_X1_load sh r5.1 1 r5.2) (fun r7 => gb_bd (f_X1_turnedByRule sh r7 x1) (fun r9 => gb_bd (f_X2_side sh r9 61 x2) (fun r11 => some (r11.1, r11.2)))))))))
set_option maxRecDepth 100000 in
set_option maxHeartbeats 4000000 in
theorem t_X10_turned_18 {Γ : gb_X} {sh : List gb_Sh} {out : gb_G × Int64} (hS : gb_S sh) : ∀ (g : gb_G) , f_X10_turned_18 sh g  = some out → gb_J Γ M_X10_turned 5 (gb_Rl sh out) 0 0 sh g 18 [] [] := by
  intro g  h
  unfold f_X10_turned_18 at h
  refine gb_ldc2 (-1) k_X10_276 d_X10_turned_18 ?_
  cases h
  exact gb_lret d_X10_turned_21 rfl ⟨rfl, rfl, rfl⟩
set_option maxRecDepth 100000 in
set_option maxHeartbeats 4000000 in
theorem t_X10_turned {Γ : gb_X} {sh : List gb_Sh} {x1 : Int32} {x2 : Int32} {out : gb_G × Int64} (hS : gb_S sh) {g : gb_G} (h : f_X10_turned sh g x1 x2 = some out) : gb_C Γ M_X10_turned 5 0 0 sh g [.ref 0, .int x1, .int x2] (gb_Rl sh out) := by
  refine gb_C.of rfl (Nat.le_of_ble_eq_true rfl) ?_
  refine gb_pick (lv' := [(0, .ref 0), (1, .int x1), (2, .int x2)]) [0, 1, 2] rfl ?_
  unfold f_X10_turned at h
  refine gb_iload_n d_X10_turned_0 rfl ?_
  refine gb_iconst 0 d_X10_turned_1 rfl ?_
  refine gb_iconst 3 d_X10_turned_2 rfl ?_
  obtain ⟨r1, e2, h⟩ := gb_bd_e h
  refine gb_cSi (As := [.int x1, .int 0, .int 3]) (rest := []) m_X10_115 (t_X10_within (Γ := Γ) hS e2) (Nat.le_of_ble_eq_true rfl) rfl rfl (Nat.le_of_ble_eq_true rfl) d_X10_turned_3 ?_
  refine gb_if_eq 18 d_X10_turned_6 (by decide) (fun hc => ?_) (fun hc => ?_)
  · have h := gb_it hc h
    refine gb_pick (lv' := []) [] rfl ?_
    exact t_X10_turned_18 hS  _  h
  · have h := gb_if hc h
    refine gb_iload_n d_X10_turned_9 rfl ?_
    refine gb_iconst 0 d_X10_turned_10 rfl ?_
    refine gb_iconst 1 d_X10_turned_11 rfl ?_
    obtain ⟨r3, e4, h⟩ := gb_bd_e h
    refine gb_cSi (As := [.int x2, .int 0, .int 1]) (rest := []) m_X10_115 (t_X10_within (Γ := Γ) hS e4) (Nat.le_of_ble_eq_true rfl) rfl rfl (Nat.le_of_ble_eq_true rfl) d_X10_turned_12 ?_
    refine gb_if_ne 22 d_X10_turned_15 (by decide) (fun hc => ?_) (fun hc => ?_)
    · have h := gb_if hc h
      refine gb_aload_n d_X10_turned_22 rfl ?_
      refine gb_getr (r := 57) f_X10_79 (hS 0 _ rfl) rfl d_X10_turned_23 ?_
      refine gb_aload_n d_X10_turned_26 rfl ?_
      refine gb_getr (r := 1) f_X10_14 (hS 0 _ rfl) rfl d_X10_turned_27 ?_
      refine gb_aload_n d_X10_turned_30 rfl ?_
      refine gb_getr (r := 1) f_X10_14 (hS 0 _ rfl) rfl d_X10_turned_31 ?_
      obtain ⟨r5, e6, h⟩ := gb_bd_e h
      refine gb_cVq (As := []) (rest := [.ref 1, .ref 57]) m_X10_145 (t_X0_lawInForce (Γ := Γ) hS (ok_X0_1 hS) e6) (ok_X0_1 hS).1 rfl (Nat.le_of_ble_eq_true rfl) rfl rfl (Nat.le_of_ble_eq_true rfl) d_X10_turned_34 ?_
      obtain ⟨r7, e8, h⟩ := gb_bd_e h
      refine gb_cVv (As := [.ref 1, va_rf r5.2]) (rest := []) m_X10_252 (t_X1_load (Γ := Γ) hS (ok_X0_1 hS) e8) (hS 57 _ rfl) rfl (Nat.le_of_ble_eq_true rfl) rfl rfl (Nat.le_of_ble_eq_true rfl) d_X10_turned_37 ?_
      refine gb_aload_n d_X10_turned_40 rfl ?_
      refine gb_getr (r := 57) f_X10_79 (hS 0 _ rfl) rfl d_X10_turned_41 ?_
      refine gb_iload_n d_X10_turned_44 rfl ?_
      obtain ⟨r9, e10, h⟩ := gb_bd_e h
      refine gb_cVr (As := [.int x1]) (rest := []) m_X10_288 (t_X1_turnedByRule (Γ := Γ) hS e10) (hS 57 _ rfl) rfl (Nat.le_of_ble_eq_true rfl) rfl rfl (Nat.le_of_ble_eq_true rfl) d_X10_turned_45 ?_
      refine gb_iload_n d_X10_turned_48 rfl ?_
      obtain ⟨r11, e12, h⟩ := gb_bd_e h
      refine gb_cVl (As := [.int x2]) (rest := []) m_X10_282 (t_X2_side (Γ := Γ) hS (ok_X2_61 hS) e12) (ok_X2_61 hS) rfl (Nat.le_of_ble_eq_true rfl) rfl rfl (Nat.le_of_ble_eq_true rfl) d_X10_turned_49 ?_
      cases h
      exact gb_lret d_X10_turned_52 rfl ⟨rfl, rfl, rfl⟩
    · have h := gb_it hc h
      refine gb_pick (lv' := []) [] rfl ?_
      exact t_X10_turned_18 hS  _  h
-- X10_pension
noncomputable def f_X10_pension (sh : List gb_Sh) (g : gb_G) : Option (gb_G × Int32) := gb_bd (f_X0_lawInForce sh g 1) (fun r1 => gb_bd (f_X1_load sh r1.1 1 r1.2) (fun r3 => gb_bd (f_X1_hundredths sh r3) (fun r5 => some (r5.1, r5.2))))
set_option maxRecDepth 100000 in
set_option maxHeartbeats 4000000 in
theorem t_X10_pension {Γ : gb_X} {sh : List gb_Sh} {out : gb_G × Int32} (hS : gb_S sh) {g : gb_G} (h : f_X10_pension sh g = some out) : gb_C Γ M_X10_pension 4 0 0 sh g [.ref 0] (gb_Ri sh out) := by
  refine gb_C.of rfl (Nat.le_of_ble_eq_true rfl) ?_
  refine gb_pick (lv' := [(0, .ref 0)]) [0] rfl ?_
  unfold f_X10_pension at h
  refine gb_aload_n d_X10_pension_0 rfl ?_
  refine gb_getr (r := 57) f_X10_79 (hS 0 _ rfl) rfl d_X10_pension_1 ?_
  refine gb_aload_n d_X10_pension_4 rfl ?_
  refine gb_getr (r := 1) f_X10_14 (hS 0 _ rfl) rfl d_X10_pension_5 ?_
  refine gb_aload_n d_X10_pension_8 rfl ?_
  refine gb_getr (r := 1) f_X10_14 (hS 0 _ rfl) rfl d_X10_pension_9 ?_
  obtain ⟨r1, e2, h⟩ := gb_bd_e h
  refine gb_cVq (As := []) (rest := [.ref 1, .ref 57]) m_X10_145 (t_X0_lawInForce (Γ := Γ) hS (ok_X0_1 hS) e2) (ok_X0_1 hS).1 rfl (Nat.le_of_ble_eq_true rfl) rfl rfl (Nat.le_of_ble_eq_true rfl) d_X10_pension_12 ?_
  obtain ⟨r3, e4, h⟩ := gb_bd_e h
  refine gb_cVv (As := [.ref 1, va_rf r1.2]) (rest := []) m_X10_252 (t_X1_load (Γ := Γ) hS (ok_X0_1 hS) e4) (hS 57 _ rfl) rfl (Nat.le_of_ble_eq_true rfl) rfl rfl (Nat.le_of_ble_eq_true rfl) d_X10_pension_15 ?_
  refine gb_aload_n d_X10_pension_18 rfl ?_
  refine gb_getr (r := 57) f_X10_79 (hS 0 _ rfl) rfl d_X10_pension_19 ?_
  obtain ⟨r5, e6, h⟩ := gb_bd_e h
  refine gb_cVi (As := []) (rest := []) m_X10_256 (t_X1_hundredths (Γ := Γ) hS e6) (hS 57 _ rfl) rfl (Nat.le_of_ble_eq_true rfl) rfl rfl (Nat.le_of_ble_eq_true rfl) d_X10_pension_22 ?_
  cases h
  exact gb_iret d_X10_pension_25 rfl ⟨rfl, rfl, rfl⟩
-- X10_glad
noncomputable def f_X10_glad (sh : List gb_Sh) (g : gb_G) (x1 : Int32) (x2 : Int32) : Option (gb_G × Int32) := gb_bd (f_X10_within sh g x1 0 99) (fun r1 => if r1.2 = 0 then (some (r1.1, (-1))) else (gb_bd (f_X10_within sh r1.1 x2 0 (r1.1.1 1 0)) (fun r3 => if r3.2 = 0 then (some (r3.1, (-1))) else (gb_bd (f_X6_cheapest sh r3.1 1 x1) (fun r5 => if r5.2 = (-1) then (some (r5.1, r5.2)) else (if x2 = 0 then (some (r5.1, r5.2)) else (gb_bd (f_X6_amountOf sh r5.1 (x2 - 1)) (fun r7 => some (r7.1, r7.2)))))))))
set_option maxRecDepth 100000 in
set_option maxHeartbeats 4000000 in
theorem t_X10_glad {Γ : gb_X} {sh : List gb_Sh} {x1 : Int32} {x2 : Int32} {out : gb_G × Int32} (hS : gb_S sh) {g : gb_G} (h : f_X10_glad sh g x1 x2 = some out) : gb_C Γ M_X10_glad 5 0 0 sh g [.ref 0, .int x1, .int x2] (gb_Ri sh out) := by
  refine gb_C.of rfl (Nat.le_of_ble_eq_true rfl) ?_
  refine gb_pick (lv' := [(0, .ref 0), (1, .int x1), (2, .int x2)]) [0, 1, 2] rfl ?_
  unfold f_X10_glad at h
  refine gb_iload_n d_X10_glad_0 rfl ?_
  refine gb_iconst 0 d_X10_glad_1 rfl ?_
  refine gb_bipush 99 d_X10_glad_2 rfl ?_
  obtain ⟨r1, e2, h⟩ := gb_bd_e h
  refine gb_cSi (As := [.int x1, .int 0, .int 99]) (rest := []) m_X10_115 (t_X10_within (Γ := Γ) hS e2) (Nat.le_of_ble_eq_true rfl) rfl rfl (Nat.le_of_ble_eq_true rfl) d_X10_glad_4 ?_
  refine gb_if_eq 25 d_X10_glad_7 (by decide) (fun hc => ?_) (fun hc => ?_)
  · have h := gb_it hc h
    refine gb_iconst (-1) d_X10_glad_25 rfl ?_
    cases h
    exact gb_iret d_X10_glad_26 rfl ⟨rfl, rfl, rfl⟩
  · have h := gb_if hc h
    refine gb_iload_n d_X10_glad_10 rfl ?_
    refine gb_iconst 0 d_X10_glad_11 rfl ?_
    refine gb_aload_n d_X10_glad_12 rfl ?_
    refine gb_getr (r := 1) f_X10_14 (hS 0 _ rfl) rfl d_X10_glad_13 ?_
    refine gb_geti f_X10_123 (ok_X0_1 hS).1 rfl d_X10_glad_16 ?_
    obtain ⟨r3, e4, h⟩ := gb_bd_e h
    refine gb_cSi (As := [.int x2, .int 0, .int (r1.1.1 1 0)]) (rest := []) m_X10_115 (t_X10_within (Γ := Γ) hS e4) (Nat.le_of_ble_eq_true rfl) rfl rfl (Nat.le_of_ble_eq_true rfl) d_X10_glad_19 ?_
    refine gb_if_ne 27 d_X10_glad_22 (by decide) (fun hc => ?_) (fun hc => ?_)
    · have h := gb_if hc h
      refine gb_aload_n d_X10_glad_27 rfl ?_
      refine gb_getr (r := 63) f_X10_88 (hS 0 _ rfl) rfl d_X10_glad_28 ?_
      refine gb_aload_n d_X10_glad_31 rfl ?_
      refine gb_getr (r := 1) f_X10_14 (hS 0 _ rfl) rfl d_X10_glad_32 ?_
      refine gb_iload_n d_X10_glad_35 rfl ?_
      obtain ⟨r5, e6, h⟩ := gb_bd_e h
      refine gb_cVi (As := [.ref 1, .int x1]) (rest := []) m_X10_291 (t_X6_cheapest (Γ := Γ) hS (ok_X0_1 hS) e6) (hS 63 _ rfl) rfl (Nat.le_of_ble_eq_true rfl) rfl rfl (Nat.le_of_ble_eq_true rfl) d_X10_glad_36 ?_
      refine gb_istore_n [(3, .int r5.2), (0, .ref 0), (1, .int x1), (2, .int x2)] d_X10_glad_39 (Nat.le_of_ble_eq_true rfl) rfl ?_
      refine gb_iload_n d_X10_glad_40 rfl ?_
      refine gb_iconst (-1) d_X10_glad_41 rfl ?_
      refine gb_icmp_eq 49 d_X10_glad_42 (by decide) (fun hc => ?_) (fun hc => ?_)
      · have h := gb_it hc h
        refine gb_iload_n d_X10_glad_49 rfl ?_
        refine gb_goto 63 d_X10_glad_50 (by decide) ?_
        cases h
        exact gb_iret d_X10_glad_63 rfl ⟨rfl, rfl, rfl⟩
      · have h := gb_if hc h
        refine gb_iload_n d_X10_glad_45 rfl ?_
        refine gb_if_ne 53 d_X10_glad_46 (by decide) (fun hc => ?_) (fun hc => ?_)
        · have h := gb_if hc h
          refine gb_aload_n d_X10_glad_53 rfl ?_
          refine gb_getr (r := 63) f_X10_88 (hS 0 _ rfl) rfl d_X10_glad_54 ?_
          refine gb_iload_n d_X10_glad_57 rfl ?_
          refine gb_iconst 1 d_X10_glad_58 rfl ?_
          refine gb_isub d_X10_glad_59 ?_
          obtain ⟨r7, e8, h⟩ := gb_bd_e h
          refine gb_cVi (As := [.int (x2 - 1)]) (rest := []) m_X10_295 (t_X6_amountOf (Γ := Γ) hS e8) (hS 63 _ rfl) rfl (Nat.le_of_ble_eq_true rfl) rfl rfl (Nat.le_of_ble_eq_true rfl) d_X10_glad_60 ?_
          cases h
          exact gb_iret d_X10_glad_63 rfl ⟨rfl, rfl, rfl⟩
        · have h := gb_it hc h
          refine gb_iload_n d_X10_glad_49 rfl ?_
          refine gb_goto 63 d_X10_glad_50 (by decide) ?_
          cases h
          exact gb_iret d_X10_glad_63 rfl ⟨rfl, rfl, rfl⟩
    · have h := gb_it hc h
      refine gb_iconst (-1) d_X10_glad_25 rfl ?_
      cases h
      exact gb_iret d_X10_glad_26 rfl ⟨rfl, rfl, rfl⟩
-- X10_round
noncomputable def f_X10_round (sh : List gb_Sh) (g : gb_G) (x1 : Int32) (x2 : Int32) : Option (gb_G × Int32) := gb_bd (f_X10_within sh g x1 0 24) (fun r1 => if r1.2 = 0 then (some (r1.1, (-1))) else (gb_bd (f_X6_walk sh r1.1 1 x1) (fun r3 => if x2 = (-1) then (some (r3.1, r3.2)) else (gb_bd (f_X6_walkedTo sh r3.1 x2) (fun r5 => some (r5.1, r5.2))))))
set_option maxRecDepth 100000 in
set_option maxHeartbeats 4000000 in
theorem t_X10_round {Γ : gb_X} {sh : List gb_Sh} {x1 : Int32} {x2 : Int32} {out : gb_G × Int32} (hS : gb_S sh) {g : gb_G} (h : f_X10_round sh g x1 x2 = some out) : gb_C Γ M_X10_round 6 0 0 sh g [.ref 0, .int x1, .int x2] (gb_Ri sh out) := by
  refine gb_C.of rfl (Nat.le_of_ble_eq_true rfl) ?_
  refine gb_pick (lv' := [(0, .ref 0), (1, .int x1), (2, .int x2)]) [0, 1, 2] rfl ?_
  unfold f_X10_round at h
  refine gb_iload_n d_X10_round_0 rfl ?_
  refine gb_iconst 0 d_X10_round_1 rfl ?_
  refine gb_bipush 24 d_X10_round_2 rfl ?_
  obtain ⟨r1, e2, h⟩ := gb_bd_e h
  refine gb_cSi (As := [.int x1, .int 0, .int 24]) (rest := []) m_X10_115 (t_X10_within (Γ := Γ) hS e2) (Nat.le_of_ble_eq_true rfl) rfl rfl (Nat.le_of_ble_eq_true rfl) d_X10_round_4 ?_
  refine gb_if_ne 12 d_X10_round_7 (by decide) (fun hc => ?_) (fun hc => ?_)
  · have h := gb_if hc h
    refine gb_aload_n d_X10_round_12 rfl ?_
    refine gb_getr (r := 63) f_X10_88 (hS 0 _ rfl) rfl d_X10_round_13 ?_
    refine gb_aload_n d_X10_round_16 rfl ?_
    refine gb_getr (r := 1) f_X10_14 (hS 0 _ rfl) rfl d_X10_round_17 ?_
    refine gb_iload_n d_X10_round_20 rfl ?_
    obtain ⟨r3, e4, h⟩ := gb_bd_e h
    refine gb_cVi (As := [.ref 1, .int x1]) (rest := []) m_X10_298 (t_X6_walk (Γ := Γ) hS (ok_X0_1 hS) e4) (hS 63 _ rfl) rfl (Nat.le_of_ble_eq_true rfl) rfl rfl (Nat.le_of_ble_eq_true rfl) d_X10_round_21 ?_
    refine gb_istore_n [(3, .int r3.2), (0, .ref 0), (1, .int x1), (2, .int x2)] d_X10_round_24 (Nat.le_of_ble_eq_true rfl) rfl ?_
    refine gb_iload_n d_X10_round_25 rfl ?_
    refine gb_iconst (-1) d_X10_round_26 rfl ?_
    refine gb_icmp_ne 34 d_X10_round_27 (by decide) (fun hc => ?_) (fun hc => ?_)
    · have h := gb_if hc h
      refine gb_aload_n d_X10_round_34 rfl ?_
      refine gb_getr (r := 63) f_X10_88 (hS 0 _ rfl) rfl d_X10_round_35 ?_
      refine gb_iload_n d_X10_round_38 rfl ?_
      obtain ⟨r5, e6, h⟩ := gb_bd_e h
      refine gb_cVi (As := [.int x2]) (rest := []) m_X10_301 (t_X6_walkedTo (Γ := Γ) hS e6) (hS 63 _ rfl) rfl (Nat.le_of_ble_eq_true rfl) rfl rfl (Nat.le_of_ble_eq_true rfl) d_X10_round_39 ?_
      cases h
      exact gb_iret d_X10_round_42 rfl ⟨rfl, rfl, rfl⟩
    · have h := gb_it hc h
      refine gb_iload_n d_X10_round_30 rfl ?_
      refine gb_goto 42 d_X10_round_31 (by decide) ?_
      cases h
      exact gb_iret d_X10_round_42 rfl ⟨rfl, rfl, rfl⟩
  · have h := gb_it hc h
    refine gb_iconst (-1) d_X10_round_10 rfl ?_
    cases h
    exact gb_iret d_X10_round_11 rfl ⟨rfl, rfl, rfl⟩
-- X10_spent
noncomputable def f_X10_spent (sh : List gb_Sh) (g : gb_G) (x1 : Int32) (x2 : Int32) (x3 : Int32) : Option (gb_G × Int32) := gb_bd (f_X10_within sh g x1 0 99) (fun r1 => if r1.2 = 0 then (some (r1.1, (-1))) else (gb_bd (f_X10_within sh r1.1 x2 0 99) (fun r3 => if r3.2 = 0 then (some (r3.1, (-1))) else (gb_bd (f_X6_seekSets sh r3.1 1 x1 x2) (fun r5 => if x3 = (-1) then (some (r5.1, r5.2)) else (gb_bd (f_X6_setAt sh r5.1 x3) (fun r7 => some (r7.1, r7.2))))))))
set_option maxRecDepth 100000 in
set_option maxHeartbeats 4000000 in
theorem t_X10_spent {Γ : gb_X} {sh : List gb_Sh} {x1 : Int32} {x2 : Int32} {x3 : Int32} {out : gb_G × Int32} (hS : gb_S sh) {g : gb_G} (h : f_X10_spent sh g x1 x2 x3 = some out) : gb_C Γ M_X10_spent 5 0 0 sh g [.ref 0, .int x1, .int x2, .int x3] (gb_Ri sh out) := by
  refine gb_C.of rfl (Nat.le_of_ble_eq_true rfl) ?_
  refine gb_pick (lv' := [(0, .ref 0), (1, .int x1), (2, .int x2), (3, .int x3)]) [0, 1, 2, 3] rfl ?_
  unfold f_X10_spent at h
  refine gb_iload_n d_X10_spent_0 rfl ?_
  refine gb_iconst 0 d_X10_spent_1 rfl ?_
  refine gb_bipush 99 d_X10_spent_2 rfl ?_
  obtain ⟨r1, e2, h⟩ := gb_bd_e h
  refine gb_cSi (As := [.int x1, .int 0, .int 99]) (rest := []) m_X10_115 (t_X10_within (Γ := Γ) hS e2) (Nat.le_of_ble_eq_true rfl) rfl rfl (Nat.le_of_ble_eq_true rfl) d_X10_spent_4 ?_
  refine gb_if_eq 20 d_X10_spent_7 (by decide) (fun hc => ?_) (fun hc => ?_)
  · have h := gb_it hc h
    refine gb_iconst (-1) d_X10_spent_20 rfl ?_
    cases h
    exact gb_iret d_X10_spent_21 rfl ⟨rfl, rfl, rfl⟩
  · have h := gb_if hc h
    refine gb_iload_n d_X10_spent_10 rfl ?_
    refine gb_iconst 0 d_X10_spent_11 rfl ?_
    refine gb_bipush 99 d_X10_spent_12 rfl ?_
    obtain ⟨r3, e4, h⟩ := gb_bd_e h
    refine gb_cSi (As := [.int x2, .int 0, .int 99]) (rest := []) m_X10_115 (t_X10_within (Γ := Γ) hS e4) (Nat.le_of_ble_eq_true rfl) rfl rfl (Nat.le_of_ble_eq_true rfl) d_X10_spent_14 ?_
    refine gb_if_ne 22 d_X10_spent_17 (by decide) (fun hc => ?_) (fun hc => ?_)
    · have h := gb_if hc h
      refine gb_aload_n d_X10_spent_22 rfl ?_
      refine gb_getr (r := 63) f_X10_88 (hS 0 _ rfl) rfl d_X10_spent_23 ?_
      refine gb_aload_n d_X10_spent_26 rfl ?_
      refine gb_getr (r := 1) f_X10_14 (hS 0 _ rfl) rfl d_X10_spent_27 ?_
      refine gb_iload_n d_X10_spent_30 rfl ?_
      refine gb_iload_n d_X10_spent_31 rfl ?_
      obtain ⟨r5, e6, h⟩ := gb_bd_e h
      refine gb_cVi (As := [.ref 1, .int x1, .int x2]) (rest := []) m_X10_304 (t_X6_seekSets (Γ := Γ) hS (ok_X0_1 hS) e6) (hS 63 _ rfl) rfl (Nat.le_of_ble_eq_true rfl) rfl rfl (Nat.le_of_ble_eq_true rfl) d_X10_spent_32 ?_
      refine gb_istore [(4, .int r5.2), (0, .ref 0), (1, .int x1), (2, .int x2), (3, .int x3)] d_X10_spent_35 (Nat.le_of_ble_eq_true rfl) rfl ?_
      refine gb_iload_n d_X10_spent_37 rfl ?_
      refine gb_iconst (-1) d_X10_spent_38 rfl ?_
      refine gb_icmp_ne 47 d_X10_spent_39 (by decide) (fun hc => ?_) (fun hc => ?_)
      · have h := gb_if hc h
        refine gb_aload_n d_X10_spent_47 rfl ?_
        refine gb_getr (r := 63) f_X10_88 (hS 0 _ rfl) rfl d_X10_spent_48 ?_
        refine gb_iload_n d_X10_spent_51 rfl ?_
        obtain ⟨r7, e8, h⟩ := gb_bd_e h
        refine gb_cVi (As := [.int x3]) (rest := []) m_X10_308 (t_X6_setAt (Γ := Γ) hS e8) (hS 63 _ rfl) rfl (Nat.le_of_ble_eq_true rfl) rfl rfl (Nat.le_of_ble_eq_true rfl) d_X10_spent_52 ?_
        cases h
        exact gb_iret d_X10_spent_55 rfl ⟨rfl, rfl, rfl⟩
      · have h := gb_it hc h
        refine gb_iload d_X10_spent_42 rfl ?_
        refine gb_goto 55 d_X10_spent_44 (by decide) ?_
        cases h
        exact gb_iret d_X10_spent_55 rfl ⟨rfl, rfl, rfl⟩
    · have h := gb_it hc h
      refine gb_iconst (-1) d_X10_spent_20 rfl ?_
      cases h
      exact gb_iret d_X10_spent_21 rfl ⟨rfl, rfl, rfl⟩
-- X10_ask
noncomputable def f_X10_ask_122 (sh : List gb_Sh) (g : gb_G) (y3 : Int32) (y5 : Int32) (y6 : Int32) : Option (gb_G × Int32) := if y3 = 0 then (some (g, y5)) else (some (g, y6))
noncomputable def f_X10_ask_108 (sh : List gb_Sh) (K116 : gb_G → Int32 → Int32 → Int32 → Int32 → Int32 → Option (gb_G × Int32)) (g : gb_G) (y3 : Int32) (y4 : Int32) (y7 : Int32) (y9 : Int32) : Option (gb_G × Int32) := K116 g y3 y4 y7 y9 y7
noncomputable def f_X10_ask_116 (sh : List gb_Sh) (K55 : gb_G → Int32 → Int32 → Int32 → Int32 → Int32 → Option (gb_G × Int32)) (g : gb_G) (y3 : Int32) (y4 : Int32) (y5 : Int32) (y6 : Int32) (y7 : Int32) : Option (gb_G × Int32) := K55 g y3 y4 y5 y6 (y7 + 1)
noncomputable def f_X10_ask_55 (sh : List gb_Sh) : Nat → gb_G → Int32 → Int32 → Int32 → Int32 → Int32 → Option (gb_G × Int32)
  | 0, _, _, _, _, _, _ => none
  | n + 1, g, y3, y4, y5, y6, y7 => if (g.1 1 0) ≤ y7 then (f_X10_ask_122 sh g y3 y5 y6) else (if y4 ≤ 0 then (f_X10_ask_122 sh g y3 y5 y6) else (gb_bd (f_X6_setsWith sh g y7) (fun r9 => gb_bd (f_J9_max_7cf53 sh r9.1 r9.2 (y4 - r9.2)) (fun r11 => if y5 = (-1) then (f_X10_ask_108 sh (fun w w0 w1 w2 w3 w4 => f_X10_ask_116 sh (fun w w0 w1 w2 w3 w4 => f_X10_ask_55 sh n w w0 w1 w2 w3 w4) w w0 w1 w2 w3 w4) r11.1 y3 y4 y7 r11.2) else (if y6 ≤ r11.2 then (f_X10_ask_116 sh (fun w w0 w1 w2 w3 w4 => f_X10_ask_55 sh n w w0 w1 w2 w3 w4) r11.1 y3 y4 y5 y6 y7) else (f_X10_ask_108 sh (fun w w0 w1 w2 w3 w4 => f_X10_ask_116 sh (fun w w0 w1 w2 w3 w4 => f_X10_ask_55 sh n w w0 w1 w2 w3 w4) w w0 w1 w2 w3 w4) r11.1 y3 y4 y7 r11.2))))))
noncomputable def f_X10_ask (sh : List gb_Sh) (g : gb_G) (x1 : Int32) (x2 : Int32) (x3 : Int32) : Option (gb_G × Int32) := gb_bd (f_X10_within sh g x1 0 99) (fun r1 => if r1.2 = 0 then (some (r1.1, (-1))) else (gb_bd (f_X10_within sh r1.1 x2 0 99) (fun r3 => if r3.2 = 0 then (some (r3.1, (-1))) else (gb_bd (f_X10_within sh r3.1 x3 0 1) (fun r5 => if r5.2 = 0 then (some (r5.1, (-1))) else (gb_bd (f_X6_seekSets sh r5.1 1 x1 x2) (fun r7 => f_X10_ask_55 sh gb_N r7.1 x3 r7.2 (-1) (-1) 0)))))))
set_option maxRecDepth 100000 in
set_option maxHeartbeats 4000000 in
theorem t_X10_ask_122 {Γ : gb_X} {sh : List gb_Sh} {out : gb_G × Int32} (hS : gb_S sh) : ∀ (g : gb_G) (y3 : Int32) (y5 : Int32) (y6 : Int32), f_X10_ask_122 sh g y3 y5 y6 = some out → gb_J Γ M_X10_ask 5 (gb_Ri sh out) 0 0 sh g 122 [(3, .int y3), (5, .int y5), (6, .int y6)] [] := by
  intro g y3 y5 y6 h
  unfold f_X10_ask_122 at h
  refine gb_iload_n d_X10_ask_122 rfl ?_
  refine gb_if_ne 131 d_X10_ask_123 (by decide) (fun hc => ?_) (fun hc => ?_)
  · have h := gb_if hc h
    refine gb_iload d_X10_ask_131 rfl ?_
    cases h
    exact gb_iret d_X10_ask_133 rfl ⟨rfl, rfl, rfl⟩
  · have h := gb_it hc h
    refine gb_iload d_X10_ask_126 rfl ?_
    refine gb_goto 133 d_X10_ask_128 (by decide) ?_
    cases h
    exact gb_iret d_X10_ask_133 rfl ⟨rfl, rfl, rfl⟩
set_option maxRecDepth 100000 in
set_option maxHeartbeats 4000000 in
theorem t_X10_ask_108 {Γ : gb_X} {sh : List gb_Sh} {out : gb_G × Int32} (hS : gb_S sh) {K116 : gb_G → Int32 → Int32 → Int32 → Int32 → Int32 → Option (gb_G × Int32)} (hK116 : ∀ (g : gb_G) (y3 : Int32) (y4 : Int32) (y5 : Int32) (y6 : Int32) (y7 : Int32), K116 g y3 y4 y5 y6 y7 = some out → gb_J Γ M_X10_ask 5 (gb_Ri sh out) 0 0 sh g 116 [(0, .ref 0), (3, .int y3), (4, .int y4), (5, .int y5), (6, .int y6), (7, .int y7)] []) : ∀ (g : gb_G) (y3 : Int32) (y4 : Int32) (y7 : Int32) (y9 : Int32), f_X10_ask_108 sh K116 g y3 y4 y7 y9 = some out → gb_J Γ M_X10_ask 5 (gb_Ri sh out) 0 0 sh g 108 [(0, .ref 0), (3, .int y3), (4, .int y4), (7, .int y7), (9, .int y9)] [] := by
  intro g y3 y4 y7 y9 h
  unfold f_X10_ask_108 at h
  refine gb_iload d_X10_ask_108 rfl ?_
  refine gb_istore [(5, .int y7), (0, .ref 0), (3, .int y3), (4, .int y4), (7, .int y7), (9, .int y9)] d_X10_ask_110 (Nat.le_of_ble_eq_true rfl) rfl ?_
  refine gb_iload d_X10_ask_112 rfl ?_
  refine gb_istore [(6, .int y9), (5, .int y7), (0, .ref 0), (3, .int y3), (4, .int y4), (7, .int y7), (9, .int y9)] d_X10_ask_114 (Nat.le_of_ble_eq_true rfl) rfl ?_
  refine gb_pick (lv' := [(0, .ref 0), (3, .int y3), (4, .int y4), (5, .int y7), (6, .int y9), (7, .int y7)]) [2, 3, 4, 1, 0, 5] rfl ?_
  exact hK116 _ y3 y4 y7 y9 y7 h
set_option maxRecDepth 100000 in
set_option maxHeartbeats 4000000 in
theorem t_X10_ask_116 {Γ : gb_X} {sh : List gb_Sh} {out : gb_G × Int32} (hS : gb_S sh) {K55 : gb_G → Int32 → Int32 → Int32 → Int32 → Int32 → Option (gb_G × Int32)} (hK55 : ∀ (g : gb_G) (y3 : Int32) (y4 : Int32) (y5 : Int32) (y6 : Int32) (y7 : Int32), K55 g y3 y4 y5 y6 y7 = some out → gb_J Γ M_X10_ask 5 (gb_Ri sh out) 0 0 sh g 55 [(0, .ref 0), (3, .int y3), (4, .int y4), (5, .int y5), (6, .int y6), (7, .int y7)] []) : ∀ (g : gb_G) (y3 : Int32) (y4 : Int32) (y5 : Int32) (y6 : Int32) (y7 : Int32), f_X10_ask_116 sh K55 g y3 y4 y5 y6 y7 = some out → gb_J Γ M_X10_ask 5 (gb_Ri sh out) 0 0 sh g 116 [(0, .ref 0), (3, .int y3), (4, .int y4), (5, .int y5), (6, .int y6), (7, .int y7)] [] := by
  intro g y3 y4 y5 y6 y7 h
  unfold f_X10_ask_116 at h
  refine gb_iinc (y7 + 1) [(7, .int (y7 + 1)), (0, .ref 0), (3, .int y3), (4, .int y4), (5, .int y5), (6, .int y6)] d_X10_ask_116 (Nat.le_of_ble_eq_true rfl) rfl rfl rfl ?_
  refine gb_goto 55 d_X10_ask_119 (by decide) ?_
  refine gb_pick (lv' := [(0, .ref 0), (3, .int y3), (4, .int y4), (5, .int y5), (6, .int y6), (7, .int (y7 + 1))]) [1, 2, 3, 4, 5, 0] rfl ?_
  exact hK55 _ y3 y4 y5 y6 (y7 + 1) h
set_option maxRecDepth 100000 in
set_option maxHeartbeats 4000000 in
theorem t_X10_ask_55 {Γ : gb_X} {sh : List gb_Sh} {out : gb_G × Int32} (hS : gb_S sh) : ∀ (n : Nat) (g : gb_G) (y3 : Int32) (y4 : Int32) (y5 : Int32) (y6 : Int32) (y7 : Int32), f_X10_ask_55 sh n g y3 y4 y5 y6 y7 = some out → gb_J Γ M_X10_ask 5 (gb_Ri sh out) 0 0 sh g 55 [(0, .ref 0), (3, .int y3), (4, .int y4), (5, .int y5), (6, .int y6), (7, .int y7)] [] := by
  intro n
  induction n with
  | zero => intro g y3 y4 y5 y6 y7 h; cases h
  | succ n ih =>
    intro g y3 y4 y5 y6 y7 h
    rw [f_X10_ask_55] at h
    refine gb_iload d_X10_ask_55 rfl ?_
    refine gb_aload_n d_X10_ask_57 rfl ?_
    refine gb_getr (r := 1) f_X10_14 (hS 0 _ rfl) rfl d_X10_ask_58 ?_
    refine gb_geti f_X10_123 (ok_X0_1 hS).1 rfl d_X10_ask_61 ?_
    refine gb_icmp_ge 122 d_X10_ask_64 (by decide) (fun hc => ?_) (fun hc => ?_)
    · have h := gb_it hc h
      refine gb_pick (lv' := [(3, .int y3), (5, .int y5), (6, .int y6)]) [1, 3, 4] rfl ?_
      exact t_X10_ask_122 hS  _ y3 y5 y6 h
    · have h := gb_if hc h
      refine gb_iload d_X10_ask_67 rfl ?_
      refine gb_if_le 122 d_X10_ask_69 (by decide) (fun hc => ?_) (fun hc => ?_)
      · have h := gb_it hc h
        refine gb_pick (lv' := [(3, .int y3), (5, .int y5), (6, .int y6)]) [1, 3, 4] rfl ?_
        exact t_X10_ask_122 hS  _ y3 y5 y6 h
      · have h := gb_if hc h
        refine gb_aload_n d_X10_ask_72 rfl ?_
        refine gb_getr (r := 63) f_X10_88 (hS 0 _ rfl) rfl d_X10_ask_73 ?_
        refine gb_iload d_X10_ask_76 rfl ?_
        obtain ⟨r9, e10, h⟩ := gb_bd_e h
        refine gb_cVi (As := [.int y7]) (rest := []) m_X10_311 (t_X6_setsWith (Γ := Γ) hS e10) (hS 63 _ rfl) rfl (Nat.le_of_ble_eq_true rfl) rfl rfl (Nat.le_of_ble_eq_true rfl) d_X10_ask_78 ?_
        refine gb_istore [(8, .int r9.2), (0, .ref 0), (3, .int y3), (4, .int y4), (5, .int y5), (6, .int y6), (7, .int y7)] d_X10_ask_81 (Nat.le_of_ble_eq_true rfl) rfl ?_
        refine gb_iload d_X10_ask_83 rfl ?_
        refine gb_iload d_X10_ask_85 rfl ?_
        refine gb_iload d_X10_ask_87 rfl ?_
        refine gb_isub d_X10_ask_89 ?_
        obtain ⟨r11, e12, h⟩ := gb_bd_e h
        refine gb_cSi (As := [.int r9.2, .int (y4 - r9.2)]) (rest := []) m_X10_314 (t_J9_max_7cf53 (Γ := Γ) hS e12) (Nat.le_of_ble_eq_true rfl) rfl rfl (Nat.le_of_ble_eq_true rfl) d_X10_ask_90 ?_
        refine gb_istore [(9, .int r11.2), (8, .int r9.2), (0, .ref 0), (3, .int y3), (4, .int y4), (5, .int y5), (6, .int y6), (7, .int y7)] d_X10_ask_93 (Nat.le_of_ble_eq_true rfl) rfl ?_
        refine gb_iload d_X10_ask_95 rfl ?_
        refine gb_iconst (-1) d_X10_ask_97 rfl ?_
        refine gb_icmp_eq 108 d_X10_ask_98 (by decide) (fun hc => ?_) (fun hc => ?_)
        · have h := gb_it hc h
          refine gb_pick (lv' := [(0, .ref 0), (3, .int y3), (4, .int y4), (7, .int y7), (9, .int r11.2)]) [2, 3, 4, 7, 0] rfl ?_
          exact t_X10_ask_108 hS (fun w w0 w1 w2 w3 w4 hw => t_X10_ask_116 hS (fun w w0 w1 w2 w3 w4 hw => ih w w0 w1 w2 w3 w4 hw) w w0 w1 w2 w3 w4 hw) _ y3 y4 y7 r11.2 h
        · have h := gb_if hc h
          refine gb_iload d_X10_ask_101 rfl ?_
          refine gb_iload d_X10_ask_103 rfl ?_
          refine gb_icmp_ge 116 d_X10_ask_105 (by decide) (fun hc => ?_) (fun hc => ?_)
          · have h := gb_it hc h
            refine gb_pick (lv' := [(0, .ref 0), (3, .int y3), (4, .int y4), (5, .int y5), (6, .int y6), (7, .int y7)]) [2, 3, 4, 5, 6, 7] rfl ?_
            exact t_X10_ask_116 hS (fun w w0 w1 w2 w3 w4 hw => ih w w0 w1 w2 w3 w4 hw) _ y3 y4 y5 y6 y7 h
          · have h := gb_if hc h
            refine gb_pick (lv' := [(0, .ref 0), (3, .int y3), (4, .int y4), (7, .int y7), (9, .int r11.2)]) [2, 3, 4, 7, 0] rfl ?_
            exact t_X10_ask_108 hS (fun w w0 w1 w2 w3 w4 hw => t_X10_ask_116 hS (fun w w0 w1 w2 w3 w4 hw => ih w w0 w1 w2 w3 w4 hw) w w0 w1 w2 w3 w4 hw) _ y3 y4 y7 r11.2 h
set_option maxRecDepth 100000 in
set_option maxHeartbeats 4000000 in
theorem t_X10_ask {Γ : gb_X} {sh : List gb_Sh} {x1 : Int32} {x2 : Int32} {x3 : Int32} {out : gb_G × Int32} (hS : gb_S sh) {g : gb_G} (h : f_X10_ask sh g x1 x2 x3 = some out) : gb_C Γ M_X10_ask 5 0 0 sh g [.ref 0, .int x1, .int x2, .int x3] (gb_Ri sh out) := by
  refine gb_C.of rfl (Nat.le_of_ble_eq_true rfl) ?_
  refine gb_pick (lv' := [(0, .ref 0), (1, .int x1), (2, .int x2), (3, .int x3)]) [0, 1, 2, 3] rfl ?_
  unfold f_X10_ask at h
  refine gb_iload_n d_X10_ask_0 rfl ?_
  refine gb_iconst 0 d_X10_ask_1 rfl ?_
  refine gb_bipush 99 d_X10_ask_2 rfl ?_
  obtain ⟨r1, e2, h⟩ := gb_bd_e h
  refine gb_cSi (As := [.int x1, .int 0, .int 99]) (rest := []) m_X10_115 (t_X10_within (Γ := Γ) hS e2) (Nat.le_of_ble_eq_true rfl) rfl rfl (Nat.le_of_ble_eq_true rfl) d_X10_ask_4 ?_
  refine gb_if_eq 29 d_X10_ask_7 (by decide) (fun hc => ?_) (fun hc => ?_)
  · have h := gb_it hc h
    refine gb_iconst (-1) d_X10_ask_29 rfl ?_
    cases h
    exact gb_iret d_X10_ask_30 rfl ⟨rfl, rfl, rfl⟩
  · have h := gb_if hc h
    refine gb_iload_n d_X10_ask_10 rfl ?_
    refine gb_iconst 0 d_X10_ask_11 rfl ?_
    refine gb_bipush 99 d_X10_ask_12 rfl ?_
    obtain ⟨r3, e4, h⟩ := gb_bd_e h
    refine gb_cSi (As := [.int x2, .int 0, .int 99]) (rest := []) m_X10_115 (t_X10_within (Γ := Γ) hS e4) (Nat.le_of_ble_eq_true rfl) rfl rfl (Nat.le_of_ble_eq_true rfl) d_X10_ask_14 ?_
    refine gb_if_eq 29 d_X10_ask_17 (by decide) (fun hc => ?_) (fun hc => ?_)
    · have h := gb_it hc h
      refine gb_iconst (-1) d_X10_ask_29 rfl ?_
      cases h
      exact gb_iret d_X10_ask_30 rfl ⟨rfl, rfl, rfl⟩
    · have h := gb_if hc h
      refine gb_iload_n d_X10_ask_20 rfl ?_
      refine gb_iconst 0 d_X10_ask_21 rfl ?_
      refine gb_iconst 1 d_X10_ask_22 rfl ?_
      obtain ⟨r5, e6, h⟩ := gb_bd_e h
      refine gb_cSi (As := [.int x3, .int 0, .int 1]) (rest := []) m_X10_115 (t_X10_within (Γ := Γ) hS e6) (Nat.le_of_ble_eq_true rfl) rfl rfl (Nat.le_of_ble_eq_true rfl) d_X10_ask_23 ?_
      refine gb_if_ne 31 d_X10_ask_26 (by decide) (fun hc => ?_) (fun hc => ?_)
      · have h := gb_if hc h
        refine gb_aload_n d_X10_ask_31 rfl ?_
        refine gb_getr (r := 63) f_X10_88 (hS 0 _ rfl) rfl d_X10_ask_32 ?_
        refine gb_aload_n d_X10_ask_35 rfl ?_
        refine gb_getr (r := 1) f_X10_14 (hS 0 _ rfl) rfl d_X10_ask_36 ?_
        refine gb_iload_n d_X10_ask_39 rfl ?_
        refine gb_iload_n d_X10_ask_40 rfl ?_
        obtain ⟨r7, e8, h⟩ := gb_bd_e h
        refine gb_cVi (As := [.ref 1, .int x1, .int x2]) (rest := []) m_X10_304 (t_X6_seekSets (Γ := Γ) hS (ok_X0_1 hS) e8) (hS 63 _ rfl) rfl (Nat.le_of_ble_eq_true rfl) rfl rfl (Nat.le_of_ble_eq_true rfl) d_X10_ask_41 ?_
        refine gb_istore [(4, .int r7.2), (0, .ref 0), (1, .int x1), (2, .int x2), (3, .int x3)] d_X10_ask_44 (Nat.le_of_ble_eq_true rfl) rfl ?_
        refine gb_iconst (-1) d_X10_ask_46 rfl ?_
        refine gb_istore [(5, .int (-1)), (4, .int r7.2), (0, .ref 0), (1, .int x1), (2, .int x2), (3, .int x3)] d_X10_ask_47 (Nat.le_of_ble_eq_true rfl) rfl ?_
        refine gb_iconst (-1) d_X10_ask_49 rfl ?_
        refine gb_istore [(6, .int (-1)), (5, .int (-1)), (4, .int r7.2), (0, .ref 0), (1, .int x1), (2, .int x2), (3, .int x3)] d_X10_ask_50 (Nat.le_of_ble_eq_true rfl) rfl ?_
        refine gb_iconst 0 d_X10_ask_52 rfl ?_
        refine gb_istore [(7, .int 0), (6, .int (-1)), (5, .int (-1)), (4, .int r7.2), (0, .ref 0), (1, .int x1), (2, .int x2), (3, .int x3)] d_X10_ask_53 (Nat.le_of_ble_eq_true rfl) rfl ?_
        refine gb_pick (lv' := [(0, .ref 0), (3, .int x3), (4, .int r7.2), (5, .int (-1)), (6, .int (-1)), (7, .int 0)]) [4, 7, 3, 2, 1, 0] rfl ?_
        exact t_X10_ask_55 hS  gb_N _ x3 r7.2 (-1) (-1) 0 h
      · have h := gb_it hc h
        refine gb_iconst (-1) d_X10_ask_29 rfl ?_
        cases h
        exact gb_iret d_X10_ask_30 rfl ⟨rfl, rfl, rfl⟩
-- X10_fair
noncomputable def f_X10_fair_94 (sh : List gb_Sh) (K101 : gb_G → Int32 → Int32 → Int32 → Int32 → Int32 → Option (gb_G × Int32)) (g : gb_G) (y1 : Int32) (y2 : Int32) (y5 : Int32) (y6 : Int32) : Option (gb_G × Int32) := K101 g y1 y2 y5 y6 y5
noncomputable def f_X10_fair_101 (sh : List gb_Sh) (K30 : gb_G → Int32 → Int32 → Int32 → Int32 → Int32 → Option (gb_G × Int32)) (g : gb_G) (y1 : Int32) (y2 : Int32) (y3 : Int32) (y4 : Int32) (y5 : Int32) : Option (gb_G × Int32) := K30 g y1 y2 y3 y4 (y5 + 1)
noncomputable def f_X10_fair_43 (sh : List gb_Sh) (K30 : gb_G → Int32 → Int32 → Int32 → Int32 → Int32 → Option (gb_G × Int32)) : Nat → gb_G → Int32 → Int32 → Int32 → Int32 → Int32 → Int32 → Int32 → Option (gb_G × Int32)
  | 0, _, _, _, _, _, _, _, _ => none
  | n + 1, g, y1, y2, y3, y4, y5, y6, y7 => if (g.1 1 2) ≤ y7 then (if y3 = (-1) then (f_X10_fair_94 sh (fun w w0 w1 w2 w3 w4 => f_X10_fair_101 sh K30 w w0 w1 w2 w3 w4) g y1 y2 y5 y6) else (if y4 ≤ y6 then (f_X10_fair_101 sh K30 g y1 y2 y3 y4 y5) else (f_X10_fair_94 sh (fun w w0 w1 w2 w3 w4 => f_X10_fair_101 sh K30 w w0 w1 w2 w3 w4) g y1 y2 y5 y6))) else (gb_bd (f_X0_ownWeight sh g 1 y7 y1) (fun r5 => gb_bd (f_J9_abs_0f7a4 sh r5.1 (r5.2 - y5)) (fun r7 => f_X10_fair_43 sh K30 n r7.1 y1 y2 y3 y4 y5 (y6 + r7.2) (y7 + 1))))
noncomputable def f_X10_fair_30 (sh : List gb_Sh) : Nat → gb_G → Int32 → Int32 → Int32 → Int32 → Int32 → Option (gb_G × Int32)
  | 0, _, _, _, _, _, _ => none
  | n + 1, g, y1, y2, y3, y4, y5 => if 9 < y5 then (if y2 = 0 then (some (g, y3)) else (some (g, y4))) else (f_X10_fair_43 sh (fun w w0 w1 w2 w3 w4 => f_X10_fair_30 sh n w w0 w1 w2 w3 w4) gb_N g y1 y2 y3 y4 y5 0 0)
noncomputable def f_X10_fair (sh : List gb_Sh) (g : gb_G) (x1 : Int32) (x2 : Int32) : Option (gb_G × Int32) := gb_bd (f_X0_has sh g 1 x1) (fun r1 => if r1.2 = 0 then (some (r1.1, (-1))) else (gb_bd (f_X10_within sh r1.1 x2 0 1) (fun r3 => if r3.2 = 0 then (some (r3.1, (-1))) else (f_X10_fair_30 sh gb_N r3.1 x1 x2 (-1) 0 0))))
set_option maxRecDepth 100000 in
set_option maxHeartbeats 4000000 in
theorem t_X10_fair_94 {Γ : gb_X} {sh : List gb_Sh} {out : gb_G × Int32} (hS : gb_S sh) {K101 : gb_G → Int32 → Int32 → Int32 → Int32 → Int32 → Option (gb_G × Int32)} (hK101 : ∀ (g : gb_G) (y1 : Int32) (y2 : Int32) (y3 : Int32) (y4 : Int32) (y5 : Int32), K101 g y1 y2 y3 y4 y5 = some out → gb_J Γ M_X10_fair 2 (gb_Ri sh out) 0 0 sh g 101 [(0, .ref 0), (1, .int y1), (2, .int y2), (3, .int y3), (4, .int y4), (5, .int y5)] []) : ∀ (g : gb_G) (y1 : Int32) (y2 : Int32) (y5 : Int32) (y6 : Int32), f_X10_fair_94 sh K101 g y1 y2 y5 y6 = some out → gb_J Γ M_X10_fair 2 (gb_Ri sh out) 0 0 sh g 94 [(0, .ref 0), (1, .int y1), (2, .int y2), (5, .int y5), (6, .int y6)] [] := by
  intro g y1 y2 y5 y6 h
  unfold f_X10_fair_94 at h
  refine gb_iload d_X10_fair_94 rfl ?_
  refine gb_istore_n [(3, .int y5), (0, .ref 0), (1, .int y1), (2, .int y2), (5, .int y5), (6, .int y6)] d_X10_fair_96 (Nat.le_of_ble_eq_true rfl) rfl ?_
  refine gb_iload d_X10_fair_97 rfl ?_
  refine gb_istore [(4, .int y6), (3, .int y5), (0, .ref 0), (1, .int y1), (2, .int y2), (5, .int y5), (6, .int y6)] d_X10_fair_99 (Nat.le_of_ble_eq_true rfl) rfl ?_
  refine gb_pick (lv' := [(0, .ref 0), (1, .int y1), (2, .int y2), (3, .int y5), (4, .int y6), (5, .int y5)]) [2, 3, 4, 1, 0, 5] rfl ?_
  exact hK101 _ y1 y2 y5 y6 y5 h
set_option maxRecDepth 100000 in
set_option maxHeartbeats 4000000 in
theorem t_X10_fair_101 {Γ : gb_X} {sh : List gb_Sh} {out : gb_G × Int32} (hS : gb_S sh) {K30 : gb_G → Int32 → Int32 → Int32 → Int32 → Int32 → Option (gb_G × Int32)} (hK30 : ∀ (g : gb_G) (y1 : Int32) (y2 : Int32) (y3 : Int32) (y4 : Int32) (y5 : Int32), K30 g y1 y2 y3 y4 y5 = some out → gb_J Γ M_X10_fair 2 (gb_Ri sh out) 0 0 sh g 30 [(0, .ref 0), (1, .int y1), (2, .int y2), (3, .int y3), (4, .int y4), (5, .int y5)] []) : ∀ (g : gb_G) (y1 : Int32) (y2 : Int32) (y3 : Int32) (y4 : Int32) (y5 : Int32), f_X10_fair_101 sh K30 g y1 y2 y3 y4 y5 = some out → gb_J Γ M_X10_fair 2 (gb_Ri sh out) 0 0 sh g 101 [(0, .ref 0), (1, .int y1), (2, .int y2), (3, .int y3), (4, .int y4), (5, .int y5)] [] := by
  intro g y1 y2 y3 y4 y5 h
  unfold f_X10_fair_101 at h
  refine gb_iinc (y5 + 1) [(5, .int (y5 + 1)), (0, .ref 0), (1, .int y1), (2, .int y2), (3, .int y3), (4, .int y4)] d_X10_fair_101 (Nat.le_of_ble_eq_true rfl) rfl rfl rfl ?_
  refine gb_goto 30 d_X10_fair_104 (by decide) ?_
  refine gb_pick (lv' := [(0, .ref 0), (1, .int y1), (2, .int y2), (3, .int y3), (4, .int y4), (5, .int (y5 + 1))]) [1, 2, 3, 4, 5, 0] rfl ?_
  exact hK30 _ y1 y2 y3 y4 (y5 + 1) h
set_option maxRecDepth 100000 in
set_option maxHeartbeats 4000000 in
theorem t_X10_fair_43 {Γ : gb_X} {sh : List gb_Sh} {out : gb_G × Int32} (hS : gb_S sh) {K30 : gb_G → Int32 → Int32 → Int32 → Int32 → Int32 → Option (gb_G × Int32)} (hK30 : ∀ (g : gb_G) (y1 : Int32) (y2 : Int32) (y3 : Int32) (y4 : Int32) (y5 : Int32), K30 g y1 y2 y3 y4 y5 = some out → gb_J Γ M_X10_fair 2 (gb_Ri sh out) 0 0 sh g 30 [(0, .ref 0), (1, .int y1), (2, .int y2), (3, .int y3), (4, .int y4), (5, .int y5)] []) : ∀ (n : Nat) (g : gb_G) (y1 : Int32) (y2 : Int32) (y3 : Int32) (y4 : Int32) (y5 : Int32) (y6 : Int32) (y7 : Int32), f_X10_fair_43 sh K30 n g y1 y2 y3 y4 y5 y6 y7 = some out → gb_J Γ M_X10_fair 2 (gb_Ri sh out) 0 0 sh g 43 [(0, .ref 0), (1, .int y1), (2, .int y2), (3, .int y3), (4, .int y4), (5, .int y5), (6, .int y6), (7, .int y7)] [] := by
  intro n
  induction n with
  | zero => intro g y1 y2 y3 y4 y5 y6 y7 h; cases h
  | succ n ih =>
    intro g y1 y2 y3 y4 y5 y6 y7 h
    rw [f_X10_fair_43] at h
    refine gb_iload d_X10_fair_43 rfl ?_
    refine gb_aload_n d_X10_fair_45 rfl ?_
    refine gb_getr (r := 1) f_X10_14 (hS 0 _ rfl) rfl d_X10_fair_46 ?_
    refine gb_geti f_X10_157 (ok_X0_1 hS).1 rfl d_X10_fair_49 ?_
    refine gb_icmp_ge 82 d_X10_fair_52 (by decide) (fun hc => ?_) (fun hc => ?_)
    · have h := gb_it hc h
      refine gb_iload_n d_X10_fair_82 rfl ?_
      refine gb_iconst (-1) d_X10_fair_83 rfl ?_
      refine gb_icmp_eq 94 d_X10_fair_84 (by decide) (fun hc => ?_) (fun hc => ?_)
      · have h := gb_it hc h
        refine gb_pick (lv' := [(0, .ref 0), (1, .int y1), (2, .int y2), (5, .int y5), (6, .int y6)]) [0, 1, 2, 5, 6] rfl ?_
        exact t_X10_fair_94 hS (fun w w0 w1 w2 w3 w4 hw => t_X10_fair_101 hS hK30 w w0 w1 w2 w3 w4 hw) _ y1 y2 y5 y6 h
      · have h := gb_if hc h
        refine gb_iload d_X10_fair_87 rfl ?_
        refine gb_iload d_X10_fair_89 rfl ?_
        refine gb_icmp_ge 101 d_X10_fair_91 (by decide) (fun hc => ?_) (fun hc => ?_)
        · have h := gb_it hc h
          refine gb_pick (lv' := [(0, .ref 0), (1, .int y1), (2, .int y2), (3, .int y3), (4, .int y4), (5, .int y5)]) [0, 1, 2, 3, 4, 5] rfl ?_
          exact t_X10_fair_101 hS hK30 _ y1 y2 y3 y4 y5 h
        · have h := gb_if hc h
          refine gb_pick (lv' := [(0, .ref 0), (1, .int y1), (2, .int y2), (5, .int y5), (6, .int y6)]) [0, 1, 2, 5, 6] rfl ?_
          exact t_X10_fair_94 hS (fun w w0 w1 w2 w3 w4 hw => t_X10_fair_101 hS hK30 w w0 w1 w2 w3 w4 hw) _ y1 y2 y5 y6 h
    · have h := gb_if hc h
      refine gb_iload d_X10_fair_55 rfl ?_
      refine gb_aload_n d_X10_fair_57 rfl ?_
      refine gb_getr (r := 1) f_X10_14 (hS 0 _ rfl) rfl d_X10_fair_58 ?_
      refine gb_iload d_X10_fair_61 rfl ?_
      refine gb_iload_n d_X10_fair_63 rfl ?_
      obtain ⟨r5, e6, h⟩ := gb_bd_e h
      refine gb_cVi (As := [.int y7, .int y1]) (rest := [.int y6]) m_X10_160 (t_X0_ownWeight (Γ := Γ) hS (ok_X0_1 hS) e6) (ok_X0_1 hS).1 rfl (Nat.le_of_ble_eq_true rfl) rfl rfl (Nat.le_of_ble_eq_true rfl) d_X10_fair_64 ?_
      refine gb_iload d_X10_fair_67 rfl ?_
      refine gb_isub d_X10_fair_69 ?_
      obtain ⟨r7, e8, h⟩ := gb_bd_e h
      refine gb_cSi (As := [.int (r5.2 - y5)]) (rest := [.int y6]) m_X10_319 (t_J9_abs_0f7a4 (Γ := Γ) hS e8) (Nat.le_of_ble_eq_true rfl) rfl rfl (Nat.le_of_ble_eq_true rfl) d_X10_fair_70 ?_
      refine gb_iadd d_X10_fair_73 ?_
      refine gb_istore [(6, .int (y6 + r7.2)), (0, .ref 0), (1, .int y1), (2, .int y2), (3, .int y3), (4, .int y4), (5, .int y5), (7, .int y7)] d_X10_fair_74 (Nat.le_of_ble_eq_true rfl) rfl ?_
      refine gb_iinc (y7 + 1) [(7, .int (y7 + 1)), (6, .int (y6 + r7.2)), (0, .ref 0), (1, .int y1), (2, .int y2), (3, .int y3), (4, .int y4), (5, .int y5)] d_X10_fair_76 (Nat.le_of_ble_eq_true rfl) rfl rfl rfl ?_
      refine gb_goto 43 d_X10_fair_79 (by decide) ?_
      refine gb_pick (lv' := [(0, .ref 0), (1, .int y1), (2, .int y2), (3, .int y3), (4, .int y4), (5, .int y5), (6, .int (y6 + r7.2)), (7, .int (y7 + 1))]) [2, 3, 4, 5, 6, 7, 1, 0] rfl ?_
      exact ih _ y1 y2 y3 y4 y5 (y6 + r7.2) (y7 + 1) h
set_option maxRecDepth 100000 in
set_option maxHeartbeats 4000000 in
theorem t_X10_fair_30 {Γ : gb_X} {sh : List gb_Sh} {out : gb_G × Int32} (hS : gb_S sh) : ∀ (n : Nat) (g : gb_G) (y1 : Int32) (y2 : Int32) (y3 : Int32) (y4 : Int32) (y5 : Int32), f_X10_fair_30 sh n g y1 y2 y3 y4 y5 = some out → gb_J Γ M_X10_fair 2 (gb_Ri sh out) 0 0 sh g 30 [(0, .ref 0), (1, .int y1), (2, .int y2), (3, .int y3), (4, .int y4), (5, .int y5)] [] := by
  intro n
  induction n with
  | zero => intro g y1 y2 y3 y4 y5 h; cases h
  | succ n ih =>
    intro g y1 y2 y3 y4 y5 h
    rw [f_X10_fair_30] at h
    refine gb_iload d_X10_fair_30 rfl ?_
    refine gb_bipush 9 d_X10_fair_32 rfl ?_
    refine gb_icmp_gt 107 d_X10_fair_34 (by decide) (fun hc => ?_) (fun hc => ?_)
    · have h := gb_it hc h
      refine gb_iload_n d_X10_fair_107 rfl ?_
      refine gb_if_ne 115 d_X10_fair_108 (by decide) (fun hc => ?_) (fun hc => ?_)
      · have h := gb_if hc h
        refine gb_iload d_X10_fair_115 rfl ?_
        cases h
        exact gb_iret d_X10_fair_117 rfl ⟨rfl, rfl, rfl⟩
      · have h := gb_it hc h
        refine gb_iload_n d_X10_fair_111 rfl ?_
        refine gb_goto 117 d_X10_fair_112 (by decide) ?_
        cases h
        exact gb_iret d_X10_fair_117 rfl ⟨rfl, rfl, rfl⟩
    · have h := gb_if hc h
      refine gb_iconst 0 d_X10_fair_37 rfl ?_
      refine gb_istore [(6, .int 0), (0, .ref 0), (1, .int y1), (2, .int y2), (3, .int y3), (4, .int y4), (5, .int y5)] d_X10_fair_38 (Nat.le_of_ble_eq_true rfl) rfl ?_
      refine gb_iconst 0 d_X10_fair_40 rfl ?_
      refine gb_istore [(7, .int 0), (6, .int 0), (0, .ref 0), (1, .int y1), (2, .int y2), (3, .int y3), (4, .int y4), (5, .int y5)] d_X10_fair_41 (Nat.le_of_ble_eq_true rfl) rfl ?_
      refine gb_pick (lv' := [(0, .ref 0), (1, .int y1), (2, .int y2), (3, .int y3), (4, .int y4), (5, .int y5), (6, .int 0), (7, .int 0)]) [2, 3, 4, 5, 6, 7, 1, 0] rfl ?_
      exact t_X10_fair_43 hS (fun w w0 w1 w2 w3 w4 hw => ih w w0 w1 w2 w3 w4 hw) gb_N _ y1 y2 y3 y4 y5 0 0 h
set_option maxRecDepth 100000 in
set_option maxHeartbeats 4000000 in
theorem t_X10_fair {Γ : gb_X} {sh : List gb_Sh} {x1 : Int32} {x2 : Int32} {out : gb_G × Int32} (hS : gb_S sh) {g : gb_G} (h : f_X10_fair sh g x1 x2 = some out) : gb_C Γ M_X10_fair 2 0 0 sh g [.ref 0, .int x1, .int x2] (gb_Ri sh out) := by
  refine gb_C.of rfl (Nat.le_of_ble_eq_true rfl) ?_
  refine gb_pick (lv' := [(0, .ref 0), (1, .int x1), (2, .int x2)]) [0, 1, 2] rfl ?_
  unfold f_X10_fair at h
  refine gb_aload_n d_X10_fair_0 rfl ?_
  refine gb_getr (r := 1) f_X10_14 (hS 0 _ rfl) rfl d_X10_fair_1 ?_
  refine gb_iload_n d_X10_fair_4 rfl ?_
  obtain ⟨r1, e2, h⟩ := gb_bd_e h
  refine gb_cVi (As := [.int x1]) (rest := []) m_X10_140 (t_X0_has (Γ := Γ) hS (ok_X0_1 hS) e2) (ok_X0_1 hS).1 rfl (Nat.le_of_ble_eq_true rfl) rfl rfl (Nat.le_of_ble_eq_true rfl) d_X10_fair_5 ?_
  refine gb_if_eq 20 d_X10_fair_8 (by decide) (fun hc => ?_) (fun hc => ?_)
  · have h := gb_it hc h
    refine gb_iconst (-1) d_X10_fair_20 rfl ?_
    cases h
    exact gb_iret d_X10_fair_21 rfl ⟨rfl, rfl, rfl⟩
  · have h := gb_if hc h
    refine gb_iload_n d_X10_fair_11 rfl ?_
    refine gb_iconst 0 d_X10_fair_12 rfl ?_
    refine gb_iconst 1 d_X10_fair_13 rfl ?_
    obtain ⟨r3, e4, h⟩ := gb_bd_e h
    refine gb_cSi (As := [.int x2, .int 0, .int 1]) (rest := []) m_X10_115 (t_X10_within (Γ := Γ) hS e4) (Nat.le_of_ble_eq_true rfl) rfl rfl (Nat.le_of_ble_eq_true rfl) d_X10_fair_14 ?_
    refine gb_if_ne 22 d_X10_fair_17 (by decide) (fun hc => ?_) (fun hc => ?_)
    · have h := gb_if hc h
      refine gb_iconst (-1) d_X10_fair_22 rfl ?_
      refine gb_istore_n [(3, .int (-1)), (0, .ref 0), (1, .int x1), (2, .int x2)] d_X10_fair_23 (Nat.le_of_ble_eq_true rfl) rfl ?_
      refine gb_iconst 0 d_X10_fair_24 rfl ?_
      refine gb_istore [(4, .int 0), (3, .int (-1)), (0, .ref 0), (1, .int x1), (2, .int x2)] d_X10_fair_25 (Nat.le_of_ble_eq_true rfl) rfl ?_
      refine gb_iconst 0 d_X10_fair_27 rfl ?_
      refine gb_istore [(5, .int 0), (4, .int 0), (3, .int (-1)), (0, .ref 0), (1, .int x1), (2, .int x2)] d_X10_fair_28 (Nat.le_of_ble_eq_true rfl) rfl ?_
      refine gb_pick (lv' := [(0, .ref 0), (1, .int x1), (2, .int x2), (3, .int (-1)), (4, .int 0), (5, .int 0)]) [3, 4, 5, 2, 1, 0] rfl ?_
      exact t_X10_fair_30 hS  gb_N _ x1 x2 (-1) 0 0 h
    · have h := gb_it hc h
      refine gb_iconst (-1) d_X10_fair_20 rfl ?_
      cases h
      exact gb_iret d_X10_fair_21 rfl ⟨rfl, rfl, rfl⟩
-- X10_hear
noncomputable def f_X10_hear (sh : List gb_Sh) (g : gb_G) (x1 : Int32) : Option (gb_G × Int32) := gb_bd (f_X10_within sh g x1 0 999) (fun r1 => if r1.2 = 0 then (gb_bd (f_X10_refuse sh r1.1 (-1)) (fun r10 => some (r10.1, r10.2))) else (if (r1.1.1 1 4) < 12 then (gb_ck (r1.1.1 1 4) 12 (gb_let (gb_pi r1.1 (1 + 3) ((r1.1.1 1 4).toNatClampNeg) x1) (fun g4 => gb_let (gb_pi g4 1 4 ((g4.1 1 4) + 1)) (fun g5 => gb_bd (f_X10_grant sh g5 (g5.1 1 4)) (fun r6 => some (r6.1, r6.2)))))) else (gb_bd (f_X10_refuse sh r1.1 (-5)) (fun r8 => some (r8.1, r8.2)))))
set_option maxRecDepth 100000 in
set_option maxHeartbeats 4000000 in
theorem t_X10_hear {Γ : gb_X} {sh : List gb_Sh} {x1 : Int32} {out : gb_G × Int32} (hS : gb_S sh) {g : gb_G} (h : f_X10_hear sh g x1 = some out) : gb_C Γ M_X10_hear 2 0 0 sh g [.ref 0, .int x1] (gb_Ri sh out) := by
  refine gb_C.of rfl (Nat.le_of_ble_eq_true rfl) ?_
  refine gb_pick (lv' := [(0, .ref 0), (1, .int x1)]) [0, 1] rfl ?_
  unfold f_X10_hear at h
  refine gb_iload_n d_X10_hear_0 rfl ?_
  refine gb_iconst 0 d_X10_hear_1 rfl ?_
  refine gb_sipush 999 d_X10_hear_2 rfl ?_
  obtain ⟨r1, e2, h⟩ := gb_bd_e h
  refine gb_cSi (As := [.int x1, .int 0, .int 999]) (rest := []) m_X10_115 (t_X10_within (Γ := Γ) hS e2) (Nat.le_of_ble_eq_true rfl) rfl rfl (Nat.le_of_ble_eq_true rfl) d_X10_hear_5 ?_
  refine gb_if_ne 17 d_X10_hear_8 (by decide) (fun hc => ?_) (fun hc => ?_)
  · have h := gb_if hc h
    refine gb_aload_n d_X10_hear_17 rfl ?_
    refine gb_getr (r := 1) f_X10_14 (hS 0 _ rfl) rfl d_X10_hear_18 ?_
    refine gb_geti f_X10_322 (ok_X0_1 hS).1 rfl d_X10_hear_21 ?_
    refine gb_bipush 12 d_X10_hear_24 rfl ?_
    refine gb_icmp_lt 36 d_X10_hear_26 (by decide) (fun hc => ?_) (fun hc => ?_)
    · have h := gb_it hc h
      refine gb_aload_n d_X10_hear_36 rfl ?_
      refine gb_getr (r := 1) f_X10_14 (hS 0 _ rfl) rfl d_X10_hear_37 ?_
      refine gb_getr (r := (1 + 3)) f_X10_325 (ok_X0_1 hS).1 rfl d_X10_hear_40 ?_
      refine gb_aload_n d_X10_hear_43 rfl ?_
      refine gb_getr (r := 1) f_X10_14 (hS 0 _ rfl) rfl d_X10_hear_44 ?_
      refine gb_geti f_X10_322 (ok_X0_1 hS).1 rfl d_X10_hear_47 ?_
      refine gb_iload_n d_X10_hear_50 rfl ?_
      obtain ⟨hi3, h⟩ := gb_ck_e h
      refine gb_iast_ ((r1.1.1 1 4).toNatClampNeg) rfl (ok_X0_1 hS).2.2.2.1 hi3 d_X10_hear_51 ?_
      have h := gb_let_e h
      generalize gb_pi r1.1 (1 + 3) ((r1.1.1 1 4).toNatClampNeg) x1 = g4 at h ⊢
      refine gb_aload_n d_X10_hear_52 rfl ?_
      refine gb_getr (r := 1) f_X10_14 (hS 0 _ rfl) rfl d_X10_hear_53 ?_
      refine gb_dup d_X10_hear_56 rfl ?_
      refine gb_geti f_X10_322 (ok_X0_1 hS).1 rfl d_X10_hear_57 ?_
      refine gb_iconst 1 d_X10_hear_60 rfl ?_
      refine gb_iadd d_X10_hear_61 ?_
      refine gb_puti f_X10_322 (fun h => nomatch h) (ok_X0_1 hS).1 rfl rfl rfl d_X10_hear_62 ?_
      have h := gb_let_e h
      generalize gb_pi g4 1 4 ((g4.1 1 4) + 1) = g5 at h ⊢
      refine gb_aload_n d_X10_hear_65 rfl ?_
      refine gb_aload_n d_X10_hear_66 rfl ?_
      refine gb_getr (r := 1) f_X10_14 (hS 0 _ rfl) rfl d_X10_hear_67 ?_
      refine gb_geti f_X10_322 (ok_X0_1 hS).1 rfl d_X10_hear_70 ?_
      obtain ⟨r6, e7, h⟩ := gb_bd_e h
      refine gb_cVi (As := [.int (g5.1 1 4)]) (rest := []) m_X10_133 (t_X10_grant (Γ := Γ) hS e7) (hS 0 _ rfl) rfl (Nat.le_of_ble_eq_true rfl) rfl rfl (Nat.le_of_ble_eq_true rfl) d_X10_hear_73 ?_
      cases h
      exact gb_iret d_X10_hear_76 rfl ⟨rfl, rfl, rfl⟩
    · have h := gb_if hc h
      refine gb_aload_n d_X10_hear_29 rfl ?_
      refine gb_bipush (-5) d_X10_hear_30 rfl ?_
      obtain ⟨r8, e9, h⟩ := gb_bd_e h
      refine gb_cVi (As := [.int (-5)]) (rest := []) m_X10_119 (t_X10_refuse (Γ := Γ) hS e9) (hS 0 _ rfl) rfl (Nat.le_of_ble_eq_true rfl) rfl rfl (Nat.le_of_ble_eq_true rfl) d_X10_hear_32 ?_
      cases h
      exact gb_iret d_X10_hear_35 rfl ⟨rfl, rfl, rfl⟩
  · have h := gb_it hc h
    refine gb_aload_n d_X10_hear_11 rfl ?_
    refine gb_iconst (-1) d_X10_hear_12 rfl ?_
    obtain ⟨r10, e11, h⟩ := gb_bd_e h
    refine gb_cVi (As := [.int (-1)]) (rest := []) m_X10_119 (t_X10_refuse (Γ := Γ) hS e11) (hS 0 _ rfl) rfl (Nat.le_of_ble_eq_true rfl) rfl rfl (Nat.le_of_ble_eq_true rfl) d_X10_hear_13 ?_
    cases h
    exact gb_iret d_X10_hear_16 rfl ⟨rfl, rfl, rfl⟩
-- X10_forget
noncomputable def f_X10_forget (sh : List gb_Sh) (g : gb_G) : Option (gb_G × Int32) := gb_let (gb_pi g 1 4 0) (fun g1 => some (g1, (g.1 1 4)))
set_option maxRecDepth 100000 in
set_option maxHeartbeats 4000000 in
theorem t_X10_forget {Γ : gb_X} {sh : List gb_Sh} {out : gb_G × Int32} (hS : gb_S sh) {g : gb_G} (h : f_X10_forget sh g = some out) : gb_C Γ M_X10_forget 0 0 0 sh g [.ref 0] (gb_Ri sh out) := by
  refine gb_C.of rfl (Nat.le_of_ble_eq_true rfl) ?_
  refine gb_pick (lv' := [(0, .ref 0)]) [0] rfl ?_
  unfold f_X10_forget at h
  refine gb_aload_n d_X10_forget_0 rfl ?_
  refine gb_getr (r := 1) f_X10_14 (hS 0 _ rfl) rfl d_X10_forget_1 ?_
  refine gb_geti f_X10_322 (ok_X0_1 hS).1 rfl d_X10_forget_4 ?_
  refine gb_istore_n [(1, .int (g.1 1 4)), (0, .ref 0)] d_X10_forget_7 (Nat.le_of_ble_eq_true rfl) rfl ?_
  refine gb_aload_n d_X10_forget_8 rfl ?_
  refine gb_getr (r := 1) f_X10_14 (hS 0 _ rfl) rfl d_X10_forget_9 ?_
  refine gb_iconst 0 d_X10_forget_12 rfl ?_
  refine gb_puti f_X10_322 (fun h => nomatch h) (ok_X0_1 hS).1 rfl rfl rfl d_X10_forget_13 ?_
  have h := gb_let_e h
  generalize gb_pi g 1 4 0 = g1 at h ⊢
  refine gb_iload_n d_X10_forget_16 rfl ?_
  cases h
  exact gb_iret d_X10_forget_17 rfl ⟨rfl, rfl, rfl⟩
-- X10_trend
noncomputable def f_X10_trend_20 (sh : List gb_Sh) (g : gb_G)  : Option (gb_G × Int32) := some (g, (-100000))
noncomputable def f_X10_trend_53 (sh : List gb_Sh) (g : gb_G) (y1 : Int32) : Option (gb_G × Int32) := gb_bd (f_X2_side sh g 74 (gb_rem y1 2)) (fun r5 => some (r5.1, r5.2.toInt32))
noncomputable def f_X10_trend (sh : List gb_Sh) (g : gb_G) (x1 : Int32) : Option (gb_G × Int32) := if (g.1 1 4) < 2 then (f_X10_trend_20 sh g ) else (gb_bd (f_X10_within sh g x1 0 3) (fun r1 => if r1.2 = 0 then (f_X10_trend_20 sh r1.1 ) else (if 2 ≤ x1 then (gb_bd (f_X6_atStart sh r1.1 1) (fun r3 => f_X10_trend_53 sh r3 x1)) else (gb_bd (f_X6_rise sh r1.1 1) (fun r7 => f_X10_trend_53 sh r7 x1)))))
set_option maxRecDepth 100000 in
set_option maxHeartbeats 4000000 in
theorem t_X10_trend_20 {Γ : gb_X} {sh : List gb_Sh} {out : gb_G × Int32} (hS : gb_S sh) : ∀ (g : gb_G) , f_X10_trend_20 sh g  = some out → gb_J Γ M_X10_trend 3 (gb_Ri sh out) 0 0 sh g 20 [] [] := by
  intro g  h
  unfold f_X10_trend_20 at h
  refine gb_ldc (-100000) k_X10_144 d_X10_trend_20 ?_
  cases h
  exact gb_iret d_X10_trend_22 rfl ⟨rfl, rfl, rfl⟩
set_option maxRecDepth 100000 in
set_option maxHeartbeats 4000000 in
theorem t_X10_trend_53 {Γ : gb_X} {sh : List gb_Sh} {out : gb_G × Int32} (hS : gb_S sh) : ∀ (g : gb_G) (y1 : Int32), f_X10_trend_53 sh g y1 = some out → gb_J Γ M_X10_trend 3 (gb_Ri sh out) 0 0 sh g 53 [(1, .int y1)] [.ref 74] := by
  intro g y1 h
  unfold f_X10_trend_53 at h
  refine gb_astore_n [(2, .ref 74), (1, .int y1)] d_X10_trend_53 (Nat.le_of_ble_eq_true rfl) rfl ?_
  refine gb_aload_n d_X10_trend_54 rfl ?_
  refine gb_iload_n d_X10_trend_55 rfl ?_
  refine gb_iconst 2 d_X10_trend_56 rfl ?_
  refine gb_rem_ d_X10_trend_57 (by decide) ?_
  obtain ⟨r5, e6, h⟩ := gb_bd_e h
  refine gb_cVl (As := [.int (gb_rem y1 2)]) (rest := []) m_X10_282 (t_X2_side (Γ := Γ) hS (ok_X2_74 hS) e6) (ok_X2_74 hS) rfl (Nat.le_of_ble_eq_true rfl) rfl rfl (Nat.le_of_ble_eq_true rfl) d_X10_trend_58 ?_
  refine gb_l2i d_X10_trend_61 ?_
  cases h
  exact gb_iret d_X10_trend_62 rfl ⟨rfl, rfl, rfl⟩
set_option maxRecDepth 100000 in
set_option maxHeartbeats 4000000 in
theorem t_X10_trend {Γ : gb_X} {sh : List gb_Sh} {x1 : Int32} {out : gb_G × Int32} (hS : gb_S sh) {g : gb_G} (h : f_X10_trend sh g x1 = some out) : gb_C Γ M_X10_trend 3 0 0 sh g [.ref 0, .int x1] (gb_Ri sh out) := by
  refine gb_C.of rfl (Nat.le_of_ble_eq_true rfl) ?_
  refine gb_pick (lv' := [(0, .ref 0), (1, .int x1)]) [0, 1] rfl ?_
  unfold f_X10_trend at h
  refine gb_aload_n d_X10_trend_0 rfl ?_
  refine gb_getr (r := 1) f_X10_14 (hS 0 _ rfl) rfl d_X10_trend_1 ?_
  refine gb_geti f_X10_322 (ok_X0_1 hS).1 rfl d_X10_trend_4 ?_
  refine gb_iconst 2 d_X10_trend_7 rfl ?_
  refine gb_icmp_lt 20 d_X10_trend_8 (by decide) (fun hc => ?_) (fun hc => ?_)
  · have h := gb_it hc h
    refine gb_pick (lv' := []) [] rfl ?_
    exact t_X10_trend_20 hS  _  h
  · have h := gb_if hc h
    refine gb_iload_n d_X10_trend_11 rfl ?_
    refine gb_iconst 0 d_X10_trend_12 rfl ?_
    refine gb_iconst 3 d_X10_trend_13 rfl ?_
    obtain ⟨r1, e2, h⟩ := gb_bd_e h
    refine gb_cSi (As := [.int x1, .int 0, .int 3]) (rest := []) m_X10_115 (t_X10_within (Γ := Γ) hS e2) (Nat.le_of_ble_eq_true rfl) rfl rfl (Nat.le_of_ble_eq_true rfl) d_X10_trend_14 ?_
    refine gb_if_ne 23 d_X10_trend_17 (by decide) (fun hc => ?_) (fun hc => ?_)
    · have h := gb_if hc h
      refine gb_iload_n d_X10_trend_23 rfl ?_
      refine gb_iconst 2 d_X10_trend_24 rfl ?_
      refine gb_icmp_ge 42 d_X10_trend_25 (by decide) (fun hc => ?_) (fun hc => ?_)
      · have h := gb_it hc h
        refine gb_aload_n d_X10_trend_42 rfl ?_
        refine gb_getr (r := 63) f_X10_88 (hS 0 _ rfl) rfl d_X10_trend_43 ?_
        refine gb_aload_n d_X10_trend_46 rfl ?_
        refine gb_getr (r := 1) f_X10_14 (hS 0 _ rfl) rfl d_X10_trend_47 ?_
        obtain ⟨r3, e4, h⟩ := gb_bd_e h
        refine gb_cVr (As := [.ref 1]) (rest := []) m_X10_332 (t_X6_atStart (Γ := Γ) hS (ok_X0_1 hS) e4) (hS 63 _ rfl) rfl (Nat.le_of_ble_eq_true rfl) rfl rfl (Nat.le_of_ble_eq_true rfl) d_X10_trend_50 ?_
        refine gb_pick (lv' := [(1, .int x1)]) [1] rfl ?_
        exact t_X10_trend_53 hS  _ x1 h
      · have h := gb_if hc h
        refine gb_aload_n d_X10_trend_28 rfl ?_
        refine gb_getr (r := 63) f_X10_88 (hS 0 _ rfl) rfl d_X10_trend_29 ?_
        refine gb_aload_n d_X10_trend_32 rfl ?_
        refine gb_getr (r := 1) f_X10_14 (hS 0 _ rfl) rfl d_X10_trend_33 ?_
        obtain ⟨r7, e8, h⟩ := gb_bd_e h
        refine gb_cVr (As := [.ref 1]) (rest := []) m_X10_328 (t_X6_rise (Γ := Γ) hS (ok_X0_1 hS) e8) (hS 63 _ rfl) rfl (Nat.le_of_ble_eq_true rfl) rfl rfl (Nat.le_of_ble_eq_true rfl) d_X10_trend_36 ?_
        refine gb_goto 53 d_X10_trend_39 (by decide) ?_
        refine gb_pick (lv' := [(1, .int x1)]) [1] rfl ?_
        exact t_X10_trend_53 hS  _ x1 h
    · have h := gb_it hc h
      refine gb_pick (lv' := []) [] rfl ?_
      exact t_X10_trend_20 hS  _  h
-- X10_does
noncomputable def f_X10_does (sh : List gb_Sh) (g : gb_G) (x1 : Int32) : Option (gb_G × Int32) := gb_bd (f_X0_has sh g 1 x1) (fun r1 => if r1.2 = 0 then (some (r1.1, (-100000))) else (gb_bd (f_X0_lawInForce sh r1.1 1) (fun r3 => gb_bd (f_X1_load sh r3.1 1 r3.2) (fun r5 => gb_bd (f_X1_thousandths sh r5) (fun r7 => gb_ck x1 8 (gb_let (gb_pi r7.1 60 x1.toNatClampNeg 0) (fun g10 => gb_bd (f_X1_thousandths sh g10) (fun r11 => some (r11.1, (r7.2 - r11.2))))))))))
set_option maxRecDepth 100000 in
set_option maxHeartbeats 4000000 in
theorem t_X10_does {Γ : gb_X} {sh : List gb_Sh} {x1 : Int32} {out : gb_G × Int32} (hS : gb_S sh) {g : gb_G} (h : f_X10_does sh g x1 = some out) : gb_C Γ M_X10_does 4 0 0 sh g [.ref 0, .int x1] (gb_Ri sh out) := by
  refine gb_C.of rfl (Nat.le_of_ble_eq_true rfl) ?_
  refine gb_pick (lv' := [(0, .ref 0), (1, .int x1)]) [0, 1] rfl ?_
  unfold f_X10_does at h
  refine gb_aload_n d_X10_does_0 rfl ?_
  refine gb_getr (r := 1) f_X10_14 (hS 0 _ rfl) rfl d_X10_does_1 ?_
  refine gb_iload_n d_X10_does_4 rfl ?_
  obtain ⟨r1, e2, h⟩ := gb_bd_e h
  refine gb_cVi (As := [.int x1]) (rest := []) m_X10_140 (t_X0_has (Γ := Γ) hS (ok_X0_1 hS) e2) (ok_X0_1 hS).1 rfl (Nat.le_of_ble_eq_true rfl) rfl rfl (Nat.le_of_ble_eq_true rfl) d_X10_does_5 ?_
  refine gb_if_ne 14 d_X10_does_8 (by decide) (fun hc => ?_) (fun hc => ?_)
  · have h := gb_if hc h
    refine gb_aload_n d_X10_does_14 rfl ?_
    refine gb_getr (r := 57) f_X10_79 (hS 0 _ rfl) rfl d_X10_does_15 ?_
    refine gb_aload_n d_X10_does_18 rfl ?_
    refine gb_getr (r := 1) f_X10_14 (hS 0 _ rfl) rfl d_X10_does_19 ?_
    refine gb_aload_n d_X10_does_22 rfl ?_
    refine gb_getr (r := 1) f_X10_14 (hS 0 _ rfl) rfl d_X10_does_23 ?_
    obtain ⟨r3, e4, h⟩ := gb_bd_e h
    refine gb_cVq (As := []) (rest := [.ref 1, .ref 57]) m_X10_145 (t_X0_lawInForce (Γ := Γ) hS (ok_X0_1 hS) e4) (ok_X0_1 hS).1 rfl (Nat.le_of_ble_eq_true rfl) rfl rfl (Nat.le_of_ble_eq_true rfl) d_X10_does_26 ?_
    obtain ⟨r5, e6, h⟩ := gb_bd_e h
    refine gb_cVv (As := [.ref 1, va_rf r3.2]) (rest := []) m_X10_252 (t_X1_load (Γ := Γ) hS (ok_X0_1 hS) e6) (hS 57 _ rfl) rfl (Nat.le_of_ble_eq_true rfl) rfl rfl (Nat.le_of_ble_eq_true rfl) d_X10_does_29 ?_
    refine gb_aload_n d_X10_does_32 rfl ?_
    refine gb_getr (r := 57) f_X10_79 (hS 0 _ rfl) rfl d_X10_does_33 ?_
    obtain ⟨r7, e8, h⟩ := gb_bd_e h
    refine gb_cVi (As := []) (rest := []) m_X10_335 (t_X1_thousandths (Γ := Γ) hS e8) (hS 57 _ rfl) rfl (Nat.le_of_ble_eq_true rfl) rfl rfl (Nat.le_of_ble_eq_true rfl) d_X10_does_36 ?_
    refine gb_istore_n [(2, .int r7.2), (0, .ref 0), (1, .int x1)] d_X10_does_39 (Nat.le_of_ble_eq_true rfl) rfl ?_
    refine gb_aload_n d_X10_does_40 rfl ?_
    refine gb_getr (r := 57) f_X10_79 (hS 0 _ rfl) rfl d_X10_does_41 ?_
    refine gb_getr (r := 60) f_X10_338 (hS 57 _ rfl) rfl d_X10_does_44 ?_
    refine gb_iload_n d_X10_does_47 rfl ?_
    refine gb_iconst 0 d_X10_does_48 rfl ?_
    obtain ⟨hi9, h⟩ := gb_ck_e h
    refine gb_iast_ x1.toNatClampNeg rfl (hS 60 _ rfl) hi9 d_X10_does_49 ?_
    have h := gb_let_e h
    generalize gb_pi r7.1 60 x1.toNatClampNeg 0 = g10 at h ⊢
    refine gb_iload_n d_X10_does_50 rfl ?_
    refine gb_aload_n d_X10_does_51 rfl ?_
    refine gb_getr (r := 57) f_X10_79 (hS 0 _ rfl) rfl d_X10_does_52 ?_
    obtain ⟨r11, e12, h⟩ := gb_bd_e h
    refine gb_cVi (As := []) (rest := [.int r7.2]) m_X10_335 (t_X1_thousandths (Γ := Γ) hS e12) (hS 57 _ rfl) rfl (Nat.le_of_ble_eq_true rfl) rfl rfl (Nat.le_of_ble_eq_true rfl) d_X10_does_55 ?_
    refine gb_isub d_X10_does_58 ?_
    cases h
    exact gb_iret d_X10_does_59 rfl ⟨rfl, rfl, rfl⟩
  · have h := gb_it hc h
    refine gb_ldc (-100000) k_X10_144 d_X10_does_11 ?_
    cases h
    exact gb_iret d_X10_does_13 rfl ⟨rfl, rfl, rfl⟩
-- X10_compare
noncomputable def f_X10_compare_24 (sh : List gb_Sh) (g : gb_G) (y1 : Int32) : Option (gb_G × Int32) := gb_bd (f_X0_lawAt sh g 1 y1) (fun r1 => gb_bd (f_X1_load sh r1.1 1 r1.2) (fun r3 => gb_bd (f_X1_thousandths sh r3) (fun r5 => some (r5.1, r5.2))))
noncomputable def f_X10_compare (sh : List gb_Sh) (g : gb_G) (x1 : Int32) : Option (gb_G × Int32) := if x1 = (-1) then (f_X10_compare_24 sh g x1) else (gb_bd (f_X10_within sh g x1 0 ((g.1 1 7) - 1)) (fun r7 => if r7.2 = 0 then (some (r7.1, (-1))) else (f_X10_compare_24 sh r7.1 x1)))
set_option maxRecDepth 100000 in
set_option maxHeartbeats 4000000 in
theorem t_X10_compare_24 {Γ : gb_X} {sh : List gb_Sh} {out : gb_G × Int32} (hS : gb_S sh) : ∀ (g : gb_G) (y1 : Int32), f_X10_compare_24 sh g y1 = some out → gb_J Γ M_X10_compare 4 (gb_Ri sh out) 0 0 sh g 24 [(0, .ref 0), (1, .int y1)] [] := by
  intro g y1 h
  unfold f_X10_compare_24 at h
  refine gb_aload_n d_X10_compare_24 rfl ?_
  refine gb_getr (r := 57) f_X10_79 (hS 0 _ rfl) rfl d_X10_compare_25 ?_
  refine gb_aload_n d_X10_compare_28 rfl ?_
  refine gb_getr (r := 1) f_X10_14 (hS 0 _ rfl) rfl d_X10_compare_29 ?_
  refine gb_aload_n d_X10_compare_32 rfl ?_
  refine gb_getr (r := 1) f_X10_14 (hS 0 _ rfl) rfl d_X10_compare_33 ?_
  refine gb_iload_n d_X10_compare_36 rfl ?_
  obtain ⟨r1, e2, h⟩ := gb_bd_e h
  refine gb_cVq (As := [.int y1]) (rest := [.ref 1, .ref 57]) m_X10_341 (t_X0_lawAt (Γ := Γ) hS (ok_X0_1 hS) e2) (ok_X0_1 hS).1 rfl (Nat.le_of_ble_eq_true rfl) rfl rfl (Nat.le_of_ble_eq_true rfl) d_X10_compare_37 ?_
  obtain ⟨r3, e4, h⟩ := gb_bd_e h
  refine gb_cVv (As := [.ref 1, va_rf r1.2]) (rest := []) m_X10_252 (t_X1_load (Γ := Γ) hS (ok_X0_1 hS) e4) (hS 57 _ rfl) rfl (Nat.le_of_ble_eq_true rfl) rfl rfl (Nat.le_of_ble_eq_true rfl) d_X10_compare_40 ?_
  refine gb_aload_n d_X10_compare_43 rfl ?_
  refine gb_getr (r := 57) f_X10_79 (hS 0 _ rfl) rfl d_X10_compare_44 ?_
  obtain ⟨r5, e6, h⟩ := gb_bd_e h
  refine gb_cVi (As := []) (rest := []) m_X10_335 (t_X1_thousandths (Γ := Γ) hS e6) (hS 57 _ rfl) rfl (Nat.le_of_ble_eq_true rfl) rfl rfl (Nat.le_of_ble_eq_true rfl) d_X10_compare_47 ?_
  cases h
  exact gb_iret d_X10_compare_50 rfl ⟨rfl, rfl, rfl⟩
set_option maxRecDepth 100000 in
set_option maxHeartbeats 4000000 in
theorem t_X10_compare {Γ : gb_X} {sh : List gb_Sh} {x1 : Int32} {out : gb_G × Int32} (hS : gb_S sh) {g : gb_G} (h : f_X10_compare sh g x1 = some out) : gb_C Γ M_X10_compare 4 0 0 sh g [.ref 0, .int x1] (gb_Ri sh out) := by
  refine gb_C.of rfl (Nat.le_of_ble_eq_true rfl) ?_
  refine gb_pick (lv' := [(0, .ref 0), (1, .int x1)]) [0, 1] rfl ?_
  unfold f_X10_compare at h
  refine gb_iload_n d_X10_compare_0 rfl ?_
  refine gb_iconst (-1) d_X10_compare_1 rfl ?_
  refine gb_icmp_eq 24 d_X10_compare_2 (by decide) (fun hc => ?_) (fun hc => ?_)
  · have h := gb_it hc h
    exact t_X10_compare_24 hS  _ x1 h
  · have h := gb_if hc h
    refine gb_iload_n d_X10_compare_5 rfl ?_
    refine gb_iconst 0 d_X10_compare_6 rfl ?_
    refine gb_aload_n d_X10_compare_7 rfl ?_
    refine gb_getr (r := 1) f_X10_14 (hS 0 _ rfl) rfl d_X10_compare_8 ?_
    refine gb_geti f_X10_185 (ok_X0_1 hS).1 rfl d_X10_compare_11 ?_
    refine gb_iconst 1 d_X10_compare_14 rfl ?_
    refine gb_isub d_X10_compare_15 ?_
    obtain ⟨r7, e8, h⟩ := gb_bd_e h
    refine gb_cSi (As := [.int x1, .int 0, .int ((g.1 1 7) - 1)]) (rest := []) m_X10_115 (t_X10_within (Γ := Γ) hS e8) (Nat.le_of_ble_eq_true rfl) rfl rfl (Nat.le_of_ble_eq_true rfl) d_X10_compare_16 ?_
    refine gb_if_ne 24 d_X10_compare_19 (by decide) (fun hc => ?_) (fun hc => ?_)
    · have h := gb_if hc h
      exact t_X10_compare_24 hS  _ x1 h
    · have h := gb_it hc h
      refine gb_iconst (-1) d_X10_compare_22 rfl ?_
      cases h
      exact gb_iret d_X10_compare_23 rfl ⟨rfl, rfl, rfl⟩
