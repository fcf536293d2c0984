-- X9_signIn
noncomputable def f_X9_signIn (sh : List gb_Sh) (g : gb_G) (s1 : Nat) : Option (gb_G × Int32) := gb_bd (f_X9_ended sh g) (fun r1 => if r1.2 = 0 then (gb_bd (f_X9_byteAt sh r1.1 (r1.1.1 43 2)) (fun r3 => gb_bd (f_J0_indexOf_0f7a4 sh r3.1 s1 ((r3.2.toUInt32 % 65536).toInt32)) (fun r5 => some (r5.1, r5.2)))) else (some (r1.1, (-1))))
set_option maxRecDepth 100000 in
set_option maxHeartbeats 4000000 in
theorem t_X9_signIn {Γ : gb_X} {sh : List gb_Sh} {s1 : Nat} {out : gb_G × Int32} (hS : gb_S sh) (h_s1 : s1 < 13) {g : gb_G} (h : f_X9_signIn sh g s1 = some out) : gb_C Γ M_X9_signIn 7 0 0 sh g [.ref 43, .retAddr (2 + s1)] (gb_Ri sh out) := by
  refine gb_C.of rfl (Nat.le_of_ble_eq_true rfl) ?_
  refine gb_pick (lv' := [(0, .ref 43), (1, .retAddr (2 + s1))]) [0, 1] rfl ?_
  unfold f_X9_signIn at h
  refine gb_aload_n d_X9_signIn_0 rfl ?_
  obtain ⟨r1, e2, h⟩ := gb_bd_e h
  refine gb_cVi (As := []) (rest := []) m_X9_44 (t_X9_ended (Γ := Γ) hS e2) (hS 43 _ rfl) rfl (Nat.le_of_ble_eq_true rfl) rfl rfl (Nat.le_of_ble_eq_true rfl) d_X9_signIn_1 ?_
  refine gb_if_eq 11 d_X9_signIn_4 (by decide) (fun hc => ?_) (fun hc => ?_)
  · have h := gb_it hc h
    refine gb_rload_n d_X9_signIn_11 rfl ?_
    refine gb_aload_n d_X9_signIn_12 rfl ?_
    refine gb_aload_n d_X9_signIn_13 rfl ?_
    refine gb_geti f_X9_19 (hS 43 _ rfl) rfl d_X9_signIn_14 ?_
    obtain ⟨r3, e4, h⟩ := gb_bd_e h
    refine gb_cVi (As := [.int (r1.1.1 43 2)]) (rest := [.retAddr (2 + s1)]) m_X9_31 (t_X9_byteAt (Γ := Γ) hS e4) (hS 43 _ rfl) rfl (Nat.le_of_ble_eq_true rfl) rfl rfl (Nat.le_of_ble_eq_true rfl) d_X9_signIn_17 ?_
    refine gb_i2c d_X9_signIn_20 ?_
    obtain ⟨r5, e6, h⟩ := gb_bd_e h
    refine gb_cVSi (As := [.int ((r3.2.toUInt32 % 65536).toInt32)]) (rest := []) h_s1 rfl m_X9_48 (t_J0_indexOf_0f7a4 (Γ := Γ) hS h_s1 e6) (Nat.le_of_ble_eq_true rfl) rfl rfl (Nat.le_of_ble_eq_true rfl) d_X9_signIn_21 ?_
    cases h
    exact gb_iret d_X9_signIn_24 rfl ⟨rfl, rfl, rfl⟩
  · have h := gb_if hc h
    refine gb_iconst (-1) d_X9_signIn_7 rfl ?_
    refine gb_goto 24 d_X9_signIn_8 (by decide) ?_
    cases h
    exact gb_iret d_X9_signIn_24 rfl ⟨rfl, rfl, rfl⟩
-- X8_readTerm
noncomputable def f_X8_readTerm_19 (sh : List gb_Sh) (R_X8_readPart : gb_G → Int32 → Option (gb_G × Int32)) : Nat → gb_G → Int32 → Int32 → Int32 → Int32 → Option (gb_G × Int32)
  | 0, _, _, _, _, _ => none
  | n + 1, g, y1, y2, y3, y4 => if 400 ≤ y4 then (gb_bo y2 (some (g, y2))) else (if y2 = 0 then (gb_bo y2 (some (g, y2))) else (if y3 = (-1) then (gb_bo y2 (some (g, y2))) else (gb_bd (f_X9_step sh g) (fun r8 => gb_bd (R_X8_readPart r8 y1) (fun r10 => gb_bd (f_X7_emit sh r10.1 46 (7 + y3) 0) (fun r12 => gb_bd (f_X9_signIn sh r12.1 10) (fun r14 => f_X8_readTerm_19 sh R_X8_readPart n r14.1 y1 r10.2 r14.2 (y4 + 1))))))))
noncomputable def f_X8_readTerm (sh : List gb_Sh) (R_X8_readPart : gb_G → Int32 → Option (gb_G × Int32)) (g : gb_G) (x1 : Int32) : Option (gb_G × Int32) := gb_bd (R_X8_readPart g x1) (fun r1 => gb_bd (f_X9_signIn sh r1.1 10) (fun r3 => f_X8_readTerm_19 sh R_X8_readPart gb_N r3.1 x1 r1.2 r3.2 0))
set_option maxRecDepth 100000 in
set_option maxHeartbeats 4000000 in
theorem t_X8_readTerm_19 {Γ : gb_X} {dR : Nat} {sh : List gb_Sh} {out : gb_G × Int32} {R_X8_readPart : gb_G → Int32 → Option (gb_G × Int32)} (hS : gb_S sh) (hR_X8_readPart : ∀ (g : gb_G) (x : Int32) {o : gb_G × Int32}, R_X8_readPart g x = some o → gb_C Γ M_X8_readPart dR 0 0 sh g [.ref 45, .int x] (gb_Ri sh o)) : ∀ (n : Nat) (g : gb_G) (y1 : Int32) (y2 : Int32) (y3 : Int32) (y4 : Int32), f_X8_readTerm_19 sh R_X8_readPart n g y1 y2 y3 y4 = some out → gb_J Γ M_X8_readTerm (dR + 8) (gb_Ri sh out) 0 0 sh g 19 [(0, .ref 45), (1, .int y1), (2, .int y2), (3, .int y3), (4, .int y4)] [] := by
  intro n
  induction n with
  | zero => intro g y1 y2 y3 y4 h; cases h
  | succ n ih =>
    intro g y1 y2 y3 y4 h
    rw [f_X8_readTerm_19] at h
    refine gb_iload d_X8_readTerm_19 rfl ?_
    refine gb_sipush 400 d_X8_readTerm_21 rfl ?_
    refine gb_icmp_ge 78 d_X8_readTerm_24 (by decide) (fun hc => ?_) (fun hc => ?_)
    · have h := gb_it hc h
      refine gb_iload_n d_X8_readTerm_78 rfl ?_
      obtain ⟨hb5, h⟩ := gb_bo_e h
      cases h
      exact gb_zret d_X8_readTerm_79 rfl hb5 ⟨rfl, rfl, rfl⟩
    · have h := gb_if hc h
      refine gb_iload_n d_X8_readTerm_27 rfl ?_
      refine gb_if_eq 78 d_X8_readTerm_28 (by decide) (fun hc => ?_) (fun hc => ?_)
      · have h := gb_it hc h
        refine gb_iload_n d_X8_readTerm_78 rfl ?_
        obtain ⟨hb6, h⟩ := gb_bo_e h
        cases h
        exact gb_zret d_X8_readTerm_79 rfl hb6 ⟨rfl, rfl, rfl⟩
      · have h := gb_if hc h
        refine gb_iload_n d_X8_readTerm_31 rfl ?_
        refine gb_iconst (-1) d_X8_readTerm_32 rfl ?_
        refine gb_icmp_eq 78 d_X8_readTerm_33 (by decide) (fun hc => ?_) (fun hc => ?_)
        · have h := gb_it hc h
          refine gb_iload_n d_X8_readTerm_78 rfl ?_
          obtain ⟨hb7, h⟩ := gb_bo_e h
          cases h
          exact gb_zret d_X8_readTerm_79 rfl hb7 ⟨rfl, rfl, rfl⟩
        · have h := gb_if hc h
          refine gb_aload_n d_X8_readTerm_36 rfl ?_
          refine gb_getr (r := 43) f_X8_26 (hS 45 _ rfl) rfl d_X8_readTerm_37 ?_
          obtain ⟨r8, e9, h⟩ := gb_bd_e h
          refine gb_cVv (As := []) (rest := []) m_X8_63 (t_X9_step (Γ := Γ) hS e9) (hS 43 _ rfl) rfl (by omega) rfl rfl (Nat.le_of_ble_eq_true rfl) d_X8_readTerm_40 ?_
          refine gb_aload_n d_X8_readTerm_43 rfl ?_
          refine gb_iload_n d_X8_readTerm_44 rfl ?_
          obtain ⟨r10, e11, h⟩ := gb_bd_e h
          refine gb_cVi (As := [.int y1]) (rest := []) m_X8_138 (hR_X8_readPart _ y1 e11) (hS 45 _ rfl) rfl (by omega) rfl rfl (Nat.le_of_ble_eq_true rfl) d_X8_readTerm_45 ?_
          refine gb_istore_n [(2, .int r10.2), (0, .ref 45), (1, .int y1), (3, .int y3), (4, .int y4)] d_X8_readTerm_48 (Nat.le_of_ble_eq_true rfl) rfl ?_
          refine gb_aload_n d_X8_readTerm_49 rfl ?_
          refine gb_getr (r := 46) f_X8_12 (hS 45 _ rfl) rfl d_X8_readTerm_50 ?_
          refine gb_bipush 7 d_X8_readTerm_53 rfl ?_
          refine gb_iload_n d_X8_readTerm_55 rfl ?_
          refine gb_iadd d_X8_readTerm_56 ?_
          refine gb_iconst 0 d_X8_readTerm_57 rfl ?_
          obtain ⟨r12, e13, h⟩ := gb_bd_e h
          refine gb_cVi (As := [.int (7 + y3), .int 0]) (rest := []) m_X8_114 (t_X7_emit (Γ := Γ) hS (ok_X7_46 hS) e13) (ok_X7_46 hS).1 rfl (by omega) rfl rfl (Nat.le_of_ble_eq_true rfl) d_X8_readTerm_58 ?_
          refine gb_pop d_X8_readTerm_61 rfl ?_
          refine gb_aload_n d_X8_readTerm_62 rfl ?_
          refine gb_getr (r := 43) f_X8_26 (hS 45 _ rfl) rfl d_X8_readTerm_63 ?_
          refine gb_ldcS 10 rfl d_X8_readTerm_66 ?_
          obtain ⟨r14, e15, h⟩ := gb_bd_e h
          refine gb_cVi (As := [.retAddr (2 + 10)]) (rest := []) m_X8_130 (t_X9_signIn (Γ := Γ) hS (by decide) e15) (hS 43 _ rfl) rfl (by omega) rfl rfl (Nat.le_of_ble_eq_true rfl) d_X8_readTerm_68 ?_
          refine gb_istore_n [(3, .int r14.2), (2, .int r10.2), (0, .ref 45), (1, .int y1), (4, .int y4)] d_X8_readTerm_71 (Nat.le_of_ble_eq_true rfl) rfl ?_
          refine gb_iinc (y4 + 1) [(4, .int (y4 + 1)), (3, .int r14.2), (2, .int r10.2), (0, .ref 45), (1, .int y1)] d_X8_readTerm_72 (Nat.le_of_ble_eq_true rfl) rfl rfl rfl ?_
          refine gb_goto 19 d_X8_readTerm_75 (by decide) ?_
          refine gb_pick (lv' := [(0, .ref 45), (1, .int y1), (2, .int r10.2), (3, .int r14.2), (4, .int (y4 + 1))]) [3, 4, 2, 1, 0] rfl ?_
          exact ih _ y1 r10.2 r14.2 (y4 + 1) h
set_option maxRecDepth 100000 in
set_option maxHeartbeats 4000000 in
theorem t_X8_readTerm {Γ : gb_X} {dR : Nat} {sh : List gb_Sh} {x1 : Int32} {out : gb_G × Int32} {R_X8_readPart : gb_G → Int32 → Option (gb_G × Int32)} (hS : gb_S sh) (hR_X8_readPart : ∀ (g : gb_G) (x : Int32) {o : gb_G × Int32}, R_X8_readPart g x = some o → gb_C Γ M_X8_readPart dR 0 0 sh g [.ref 45, .int x] (gb_Ri sh o)) {g : gb_G} (h : f_X8_readTerm sh R_X8_readPart g x1 = some out) : gb_C Γ M_X8_readTerm (dR + 8) 0 0 sh g [.ref 45, .int x1] (gb_Ri sh out) := by
  refine gb_C.of rfl (Nat.le_of_ble_eq_true rfl) ?_
  refine gb_pick (lv' := [(0, .ref 45), (1, .int x1)]) [0, 1] rfl ?_
  unfold f_X8_readTerm at h
  refine gb_aload_n d_X8_readTerm_0 rfl ?_
  refine gb_iload_n d_X8_readTerm_1 rfl ?_
  obtain ⟨r1, e2, h⟩ := gb_bd_e h
  refine gb_cVi (As := [.int x1]) (rest := []) m_X8_138 (hR_X8_readPart _ x1 e2) (hS 45 _ rfl) rfl (by omega) rfl rfl (Nat.le_of_ble_eq_true rfl) d_X8_readTerm_2 ?_
  refine gb_istore_n [(2, .int r1.2), (0, .ref 45), (1, .int x1)] d_X8_readTerm_5 (Nat.le_of_ble_eq_true rfl) rfl ?_
  refine gb_aload_n d_X8_readTerm_6 rfl ?_
  refine gb_getr (r := 43) f_X8_26 (hS 45 _ rfl) rfl d_X8_readTerm_7 ?_
  refine gb_ldcS 10 rfl d_X8_readTerm_10 ?_
  obtain ⟨r3, e4, h⟩ := gb_bd_e h
  refine gb_cVi (As := [.retAddr (2 + 10)]) (rest := []) m_X8_130 (t_X9_signIn (Γ := Γ) hS (by decide) e4) (hS 43 _ rfl) rfl (by omega) rfl rfl (Nat.le_of_ble_eq_true rfl) d_X8_readTerm_12 ?_
  refine gb_istore_n [(3, .int r3.2), (2, .int r1.2), (0, .ref 45), (1, .int x1)] d_X8_readTerm_15 (Nat.le_of_ble_eq_true rfl) rfl ?_
  refine gb_iconst 0 d_X8_readTerm_16 rfl ?_
  refine gb_istore [(4, .int 0), (3, .int r3.2), (2, .int r1.2), (0, .ref 45), (1, .int x1)] d_X8_readTerm_17 (Nat.le_of_ble_eq_true rfl) rfl ?_
  refine gb_pick (lv' := [(0, .ref 45), (1, .int x1), (2, .int r1.2), (3, .int r3.2), (4, .int 0)]) [3, 4, 2, 1, 0] rfl ?_
  exact t_X8_readTerm_19 hS hR_X8_readPart  gb_N _ x1 r1.2 r3.2 0 h
-- X8_readSum
noncomputable def f_X8_readSum_19 (sh : List gb_Sh) (R_X8_readTerm : gb_G → Int32 → Option (gb_G × Int32)) : Nat → gb_G → Int32 → Int32 → Int32 → Int32 → Option (gb_G × Int32)
  | 0, _, _, _, _, _ => none
  | n + 1, g, y1, y2, y3, y4 => if 400 ≤ y4 then (gb_bo y2 (some (g, y2))) else (if y2 = 0 then (gb_bo y2 (some (g, y2))) else (if y3 = (-1) then (gb_bo y2 (some (g, y2))) else (gb_bd (f_X9_step sh g) (fun r8 => gb_bd (R_X8_readTerm r8 y1) (fun r10 => gb_bd (f_X7_emit sh r10.1 46 (5 + y3) 0) (fun r12 => gb_bd (f_X9_signIn sh r12.1 9) (fun r14 => f_X8_readSum_19 sh R_X8_readTerm n r14.1 y1 r10.2 r14.2 (y4 + 1))))))))
noncomputable def f_X8_readSum (sh : List gb_Sh) (R_X8_readTerm : gb_G → Int32 → Option (gb_G × Int32)) (g : gb_G) (x1 : Int32) : Option (gb_G × Int32) := gb_bd (R_X8_readTerm g x1) (fun r1 => gb_bd (f_X9_signIn sh r1.1 9) (fun r3 => f_X8_readSum_19 sh R_X8_readTerm gb_N r3.1 x1 r1.2 r3.2 0))
set_option maxRecDepth 100000 in
set_option maxHeartbeats 4000000 in
theorem t_X8_readSum_19 {Γ : gb_X} {dR : Nat} {sh : List gb_Sh} {out : gb_G × Int32} {R_X8_readTerm : gb_G → Int32 → Option (gb_G × Int32)} (hS : gb_S sh) (hR_X8_readTerm : ∀ (g : gb_G) (x : Int32) {o : gb_G × Int32}, R_X8_readTerm g x = some o → gb_C Γ M_X8_readTerm dR 0 0 sh g [.ref 45, .int x] (gb_Ri sh o)) : ∀ (n : Nat) (g : gb_G) (y1 : Int32) (y2 : Int32) (y3 : Int32) (y4 : Int32), f_X8_readSum_19 sh R_X8_readTerm n g y1 y2 y3 y4 = some out → gb_J Γ M_X8_readSum (dR + 8) (gb_Ri sh out) 0 0 sh g 19 [(0, .ref 45), (1, .int y1), (2, .int y2), (3, .int y3), (4, .int y4)] [] := by
  intro n
  induction n with
  | zero => intro g y1 y2 y3 y4 h; cases h
  | succ n ih =>
    intro g y1 y2 y3 y4 h
    rw [f_X8_readSum_19] at h
    refine gb_iload d_X8_readSum_19 rfl ?_
    refine gb_sipush 400 d_X8_readSum_21 rfl ?_
    refine gb_icmp_ge 77 d_X8_readSum_24 (by decide) (fun hc => ?_) (fun hc => ?_)
    · have h := gb_it hc h
      refine gb_iload_n d_X8_readSum_77 rfl ?_
      obtain ⟨hb5, h⟩ := gb_bo_e h
      cases h
      exact gb_zret d_X8_readSum_78 rfl hb5 ⟨rfl, rfl, rfl⟩
    · have h := gb_if hc h
      refine gb_iload_n d_X8_readSum_27 rfl ?_
      refine gb_if_eq 77 d_X8_readSum_28 (by decide) (fun hc => ?_) (fun hc => ?_)
      · have h := gb_it hc h
        refine gb_iload_n d_X8_readSum_77 rfl ?_
        obtain ⟨hb6, h⟩ := gb_bo_e h
        cases h
        exact gb_zret d_X8_readSum_78 rfl hb6 ⟨rfl, rfl, rfl⟩
      · have h := gb_if hc h
        refine gb_iload_n d_X8_readSum_31 rfl ?_
        refine gb_iconst (-1) d_X8_readSum_32 rfl ?_
        refine gb_icmp_eq 77 d_X8_readSum_33 (by decide) (fun hc => ?_) (fun hc => ?_)
        · have h := gb_it hc h
          refine gb_iload_n d_X8_readSum_77 rfl ?_
          obtain ⟨hb7, h⟩ := gb_bo_e h
          cases h
          exact gb_zret d_X8_readSum_78 rfl hb7 ⟨rfl, rfl, rfl⟩
        · have h := gb_if hc h
          refine gb_aload_n d_X8_readSum_36 rfl ?_
          refine gb_getr (r := 43) f_X8_26 (hS 45 _ rfl) rfl d_X8_readSum_37 ?_
          obtain ⟨r8, e9, h⟩ := gb_bd_e h
          refine gb_cVv (As := []) (rest := []) m_X8_63 (t_X9_step (Γ := Γ) hS e9) (hS 43 _ rfl) rfl (by omega) rfl rfl (Nat.le_of_ble_eq_true rfl) d_X8_readSum_40 ?_
          refine gb_aload_n d_X8_readSum_43 rfl ?_
          refine gb_iload_n d_X8_readSum_44 rfl ?_
          obtain ⟨r10, e11, h⟩ := gb_bd_e h
          refine gb_cVi (As := [.int y1]) (rest := []) m_X8_133 (hR_X8_readTerm _ y1 e11) (hS 45 _ rfl) rfl (by omega) rfl rfl (Nat.le_of_ble_eq_true rfl) d_X8_readSum_45 ?_
          refine gb_istore_n [(2, .int r10.2), (0, .ref 45), (1, .int y1), (3, .int y3), (4, .int y4)] d_X8_readSum_48 (Nat.le_of_ble_eq_true rfl) rfl ?_
          refine gb_aload_n d_X8_readSum_49 rfl ?_
          refine gb_getr (r := 46) f_X8_12 (hS 45 _ rfl) rfl d_X8_readSum_50 ?_
          refine gb_iconst 5 d_X8_readSum_53 rfl ?_
          refine gb_iload_n d_X8_readSum_54 rfl ?_
          refine gb_iadd d_X8_readSum_55 ?_
          refine gb_iconst 0 d_X8_readSum_56 rfl ?_
          obtain ⟨r12, e13, h⟩ := gb_bd_e h
          refine gb_cVi (As := [.int (5 + y3), .int 0]) (rest := []) m_X8_114 (t_X7_emit (Γ := Γ) hS (ok_X7_46 hS) e13) (ok_X7_46 hS).1 rfl (by omega) rfl rfl (Nat.le_of_ble_eq_true rfl) d_X8_readSum_57 ?_
          refine gb_pop d_X8_readSum_60 rfl ?_
          refine gb_aload_n d_X8_readSum_61 rfl ?_
          refine gb_getr (r := 43) f_X8_26 (hS 45 _ rfl) rfl d_X8_readSum_62 ?_
          refine gb_ldcS 9 rfl d_X8_readSum_65 ?_
          obtain ⟨r14, e15, h⟩ := gb_bd_e h
          refine gb_cVi (As := [.retAddr (2 + 9)]) (rest := []) m_X8_130 (t_X9_signIn (Γ := Γ) hS (by decide) e15) (hS 43 _ rfl) rfl (by omega) rfl rfl (Nat.le_of_ble_eq_true rfl) d_X8_readSum_67 ?_
          refine gb_istore_n [(3, .int r14.2), (2, .int r10.2), (0, .ref 45), (1, .int y1), (4, .int y4)] d_X8_readSum_70 (Nat.le_of_ble_eq_true rfl) rfl ?_
          refine gb_iinc (y4 + 1) [(4, .int (y4 + 1)), (3, .int r14.2), (2, .int r10.2), (0, .ref 45), (1, .int y1)] d_X8_readSum_71 (Nat.le_of_ble_eq_true rfl) rfl rfl rfl ?_
          refine gb_goto 19 d_X8_readSum_74 (by decide) ?_
          refine gb_pick (lv' := [(0, .ref 45), (1, .int y1), (2, .int r10.2), (3, .int r14.2), (4, .int (y4 + 1))]) [3, 4, 2, 1, 0] rfl ?_
          exact ih _ y1 r10.2 r14.2 (y4 + 1) h
set_option maxRecDepth 100000 in
set_option maxHeartbeats 4000000 in
theorem t_X8_readSum {Γ : gb_X} {dR : Nat} {sh : List gb_Sh} {x1 : Int32} {out : gb_G × Int32} {R_X8_readTerm : gb_G → Int32 → Option (gb_G × Int32)} (hS : gb_S sh) (hR_X8_readTerm : ∀ (g : gb_G) (x : Int32) {o : gb_G × Int32}, R_X8_readTerm g x = some o → gb_C Γ M_X8_readTerm dR 0 0 sh g [.ref 45, .int x] (gb_Ri sh o)) {g : gb_G} (h : f_X8_readSum sh R_X8_readTerm g x1 = some out) : gb_C Γ M_X8_readSum (dR + 8) 0 0 sh g [.ref 45, .int x1] (gb_Ri sh out) := by
  refine gb_C.of rfl (Nat.le_of_ble_eq_true rfl) ?_
  refine gb_pick (lv' := [(0, .ref 45), (1, .int x1)]) [0, 1] rfl ?_
  unfold f_X8_readSum at h
  refine gb_aload_n d_X8_readSum_0 rfl ?_
  refine gb_iload_n d_X8_readSum_1 rfl ?_
  obtain ⟨r1, e2, h⟩ := gb_bd_e h
  refine gb_cVi (As := [.int x1]) (rest := []) m_X8_133 (hR_X8_readTerm _ x1 e2) (hS 45 _ rfl) rfl (by omega) rfl rfl (Nat.le_of_ble_eq_true rfl) d_X8_readSum_2 ?_
  refine gb_istore_n [(2, .int r1.2), (0, .ref 45), (1, .int x1)] d_X8_readSum_5 (Nat.le_of_ble_eq_true rfl) rfl ?_
  refine gb_aload_n d_X8_readSum_6 rfl ?_
  refine gb_getr (r := 43) f_X8_26 (hS 45 _ rfl) rfl d_X8_readSum_7 ?_
  refine gb_ldcS 9 rfl d_X8_readSum_10 ?_
  obtain ⟨r3, e4, h⟩ := gb_bd_e h
  refine gb_cVi (As := [.retAddr (2 + 9)]) (rest := []) m_X8_130 (t_X9_signIn (Γ := Γ) hS (by decide) e4) (hS 43 _ rfl) rfl (by omega) rfl rfl (Nat.le_of_ble_eq_true rfl) d_X8_readSum_12 ?_
  refine gb_istore_n [(3, .int r3.2), (2, .int r1.2), (0, .ref 45), (1, .int x1)] d_X8_readSum_15 (Nat.le_of_ble_eq_true rfl) rfl ?_
  refine gb_iconst 0 d_X8_readSum_16 rfl ?_
  refine gb_istore [(4, .int 0), (3, .int r3.2), (2, .int r1.2), (0, .ref 45), (1, .int x1)] d_X8_readSum_17 (Nat.le_of_ble_eq_true rfl) rfl ?_
  refine gb_pick (lv' := [(0, .ref 45), (1, .int x1), (2, .int r1.2), (3, .int r3.2), (4, .int 0)]) [3, 4, 2, 1, 0] rfl ?_
  exact t_X8_readSum_19 hS hR_X8_readTerm  gb_N _ x1 r1.2 r3.2 0 h
-- X8_readPlain
noncomputable def f_X8_readPlain_123 (sh : List gb_Sh) (R_X8_readSum : gb_G → Int32 → Option (gb_G × Int32)) (R_X8_readTest : gb_G → Int32 → Option (gb_G × Int32)) (K155 : gb_G → Int32 → Int32 → Option (gb_G × Int32)) (g : gb_G) (y1 : Int32) (y2 : Int32) (y4 : Int32) (z0 : Int32) : Option (gb_G × Int32) := if z0 = 0 then (K155 g y2 z0) else (gb_bd (f_X9_step sh g) (fun r7 => gb_bd (R_X8_readSum r7 y1) (fun r9 => gb_bd (f_X7_emit sh r9.1 46 (10 + y4) 0) (fun r11 => K155 r11.1 y2 r9.2))))
noncomputable def f_X8_readPlain_155 (sh : List gb_Sh) (R_X8_readSum : gb_G → Int32 → Option (gb_G × Int32)) (R_X8_readTest : gb_G → Int32 → Option (gb_G × Int32)) (g : gb_G) (y2 : Int32) (y3 : Int32) : Option (gb_G × Int32) := if y2 = 0 then (gb_bo y3 (some (g, y3))) else (gb_bd (f_X7_emit sh g 46 2 0) (fun r14 => gb_bo y3 (some (r14.1, y3))))
noncomputable def f_X8_readPlain_87 (sh : List gb_Sh) (R_X8_readSum : gb_G → Int32 → Option (gb_G × Int32)) (R_X8_readTest : gb_G → Int32 → Option (gb_G × Int32)) (K155 : gb_G → Int32 → Int32 → Option (gb_G × Int32)) (g : gb_G) (y2 : Int32) (z0 : Int32) : Option (gb_G × Int32) := K155 g y2 z0
noncomputable def f_X8_readPlain_36 (sh : List gb_Sh) (R_X8_readSum : gb_G → Int32 → Option (gb_G × Int32)) (R_X8_readTest : gb_G → Int32 → Option (gb_G × Int32)) (g : gb_G) (y1 : Int32) (y2 : Int32) : Option (gb_G × Int32) := gb_bd (f_X9_isSign sh g 40) (fun r1 => if r1.2 = 0 then (gb_bd (R_X8_readSum r1.1 y1) (fun r3 => gb_bd (f_X9_signIn sh r3.1 8) (fun r5 => if r3.2 = 0 then (f_X8_readPlain_123 sh R_X8_readSum R_X8_readTest (fun w w0 w1 => f_X8_readPlain_155 sh R_X8_readSum R_X8_readTest w w0 w1) r5.1 y1 y2 r5.2 0) else (if r5.2 = (-1) then (f_X8_readPlain_123 sh R_X8_readSum R_X8_readTest (fun w w0 w1 => f_X8_readPlain_155 sh R_X8_readSum R_X8_readTest w w0 w1) r5.1 y1 y2 r5.2 0) else (f_X8_readPlain_123 sh R_X8_readSum R_X8_readTest (fun w w0 w1 => f_X8_readPlain_155 sh R_X8_readSum R_X8_readTest w w0 w1) r5.1 y1 y2 r5.2 1))))) else (if 8 ≤ y1 then (f_X8_readPlain_87 sh R_X8_readSum R_X8_readTest (fun w w0 w1 => f_X8_readPlain_155 sh R_X8_readSum R_X8_readTest w w0 w1) r1.1 y2 0) else (gb_bd (f_X8_readSign sh r1.1 40) (fun r17 => if r17.2 = 0 then (f_X8_readPlain_87 sh R_X8_readSum R_X8_readTest (fun w w0 w1 => f_X8_readPlain_155 sh R_X8_readSum R_X8_readTest w w0 w1) r17.1 y2 0) else (gb_bd (R_X8_readTest r17.1 (y1 + 1)) (fun r19 => if r19.2 = 0 then (f_X8_readPlain_87 sh R_X8_readSum R_X8_readTest (fun w w0 w1 => f_X8_readPlain_155 sh R_X8_readSum R_X8_readTest w w0 w1) r19.1 y2 0) else (gb_bd (f_X8_readSign sh r19.1 41) (fun r21 => if r21.2 = 0 then (f_X8_readPlain_87 sh R_X8_readSum R_X8_readTest (fun w w0 w1 => f_X8_readPlain_155 sh R_X8_readSum R_X8_readTest w w0 w1) r21.1 y2 0) else (f_X8_readPlain_87 sh R_X8_readSum R_X8_readTest (fun w w0 w1 => f_X8_readPlain_155 sh R_X8_readSum R_X8_readTest w w0 w1) r21.1 y2 1)))))))))
noncomputable def f_X8_readPlain_29 (sh : List gb_Sh) (R_X8_readSum : gb_G → Int32 → Option (gb_G × Int32)) (R_X8_readTest : gb_G → Int32 → Option (gb_G × Int32)) (K4 : gb_G → Int32 → Int32 → Int32 → Option (gb_G × Int32)) (g : gb_G) (y1 : Int32) (y3 : Int32) (z0 : Int32) : Option (gb_G × Int32) := K4 g y1 z0 (y3 + 1)
noncomputable def f_X8_readPlain_4 (sh : List gb_Sh) (R_X8_readSum : gb_G → Int32 → Option (gb_G × Int32)) (R_X8_readTest : gb_G → Int32 → Option (gb_G × Int32)) : Nat → gb_G → Int32 → Int32 → Int32 → Option (gb_G × Int32)
  | 0, _, _, _, _ => none
  | n + 1, g, y1, y2, y3 => if 400 ≤ y3 then (f_X8_readPlain_36 sh R_X8_readSum R_X8_readTest g y1 y2) else (gb_bd (f_X8_readKeyword sh g 7) (fun r23 => if r23.2 = 0 then (f_X8_readPlain_36 sh R_X8_readSum R_X8_readTest r23.1 y1 y2) else (if y2 = 0 then (f_X8_readPlain_29 sh R_X8_readSum R_X8_readTest (fun w w0 w1 w2 => f_X8_readPlain_4 sh R_X8_readSum R_X8_readTest n w w0 w1 w2) r23.1 y1 y3 1) else (f_X8_readPlain_29 sh R_X8_readSum R_X8_readTest (fun w w0 w1 w2 => f_X8_readPlain_4 sh R_X8_readSum R_X8_readTest n w w0 w1 w2) r23.1 y1 y3 0))))
noncomputable def f_X8_readPlain (sh : List gb_Sh) (R_X8_readSum : gb_G → Int32 → Option (gb_G × Int32)) (R_X8_readTest : gb_G → Int32 → Option (gb_G × Int32)) (g : gb_G) (x1 : Int32) : Option (gb_G × Int32) := f_X8_readPlain_4 sh R_X8_readSum R_X8_readTest gb_N g x1 0 0
set_option maxRecDepth 100000 in
set_option maxHeartbeats 4000000 in
theorem t_X8_readPlain_123 {Γ : gb_X} {dR : Nat} {sh : List gb_Sh} {out : gb_G × Int32} {R_X8_readSum : gb_G → Int32 → Option (gb_G × Int32)} {R_X8_readTest : gb_G → Int32 → Option (gb_G × Int32)} (hS : gb_S sh) (hR_X8_readSum : ∀ (g : gb_G) (x : Int32) {o : gb_G × Int32}, R_X8_readSum g x = some o → gb_C Γ M_X8_readSum dR 0 0 sh g [.ref 45, .int x] (gb_Ri sh o)) (hR_X8_readTest : ∀ (g : gb_G) (x : Int32) {o : gb_G × Int32}, R_X8_readTest g x = some o → gb_C Γ M_X8_readTest dR 0 0 sh g [.ref 45, .int x] (gb_Ri sh o)) {K155 : gb_G → Int32 → Int32 → Option (gb_G × Int32)} (hK155 : ∀ (g : gb_G) (y2 : Int32) (y3 : Int32), K155 g y2 y3 = some out → gb_J Γ M_X8_readPlain (dR + 8) (gb_Ri sh out) 0 0 sh g 155 [(0, .ref 45), (2, .int y2), (3, .int y3)] []) : ∀ (g : gb_G) (y1 : Int32) (y2 : Int32) (y4 : Int32) (z0 : Int32), f_X8_readPlain_123 sh R_X8_readSum R_X8_readTest K155 g y1 y2 y4 z0 = some out → gb_J Γ M_X8_readPlain (dR + 8) (gb_Ri sh out) 0 0 sh g 123 [(0, .ref 45), (1, .int y1), (2, .int y2), (4, .int y4)] [.int z0] := by
  intro g y1 y2 y4 z0 h
  unfold f_X8_readPlain_123 at h
  refine gb_istore_n [(3, .int z0), (0, .ref 45), (1, .int y1), (2, .int y2), (4, .int y4)] d_X8_readPlain_123 (Nat.le_of_ble_eq_true rfl) rfl ?_
  refine gb_iload_n d_X8_readPlain_124 rfl ?_
  refine gb_if_eq 155 d_X8_readPlain_125 (by decide) (fun hc => ?_) (fun hc => ?_)
  · have h := gb_it hc h
    refine gb_pick (lv' := [(0, .ref 45), (2, .int y2), (3, .int z0)]) [1, 3, 0] rfl ?_
    exact hK155 _ y2 z0 h
  · have h := gb_if hc h
    refine gb_aload_n d_X8_readPlain_128 rfl ?_
    refine gb_getr (r := 43) f_X8_26 (hS 45 _ rfl) rfl d_X8_readPlain_129 ?_
    obtain ⟨r7, e8, h⟩ := gb_bd_e h
    refine gb_cVv (As := []) (rest := []) m_X8_63 (t_X9_step (Γ := Γ) hS e8) (hS 43 _ rfl) rfl (by omega) rfl rfl (Nat.le_of_ble_eq_true rfl) d_X8_readPlain_132 ?_
    refine gb_aload_n d_X8_readPlain_135 rfl ?_
    refine gb_iload_n d_X8_readPlain_136 rfl ?_
    obtain ⟨r9, e10, h⟩ := gb_bd_e h
    refine gb_cVi (As := [.int y1]) (rest := []) m_X8_70 (hR_X8_readSum _ y1 e10) (hS 45 _ rfl) rfl (by omega) rfl rfl (Nat.le_of_ble_eq_true rfl) d_X8_readPlain_137 ?_
    refine gb_istore_n [(3, .int r9.2), (0, .ref 45), (1, .int y1), (2, .int y2), (4, .int y4)] d_X8_readPlain_140 (Nat.le_of_ble_eq_true rfl) rfl ?_
    refine gb_aload_n d_X8_readPlain_141 rfl ?_
    refine gb_getr (r := 46) f_X8_12 (hS 45 _ rfl) rfl d_X8_readPlain_142 ?_
    refine gb_bipush 10 d_X8_readPlain_145 rfl ?_
    refine gb_iload d_X8_readPlain_147 rfl ?_
    refine gb_iadd d_X8_readPlain_149 ?_
    refine gb_iconst 0 d_X8_readPlain_150 rfl ?_
    obtain ⟨r11, e12, h⟩ := gb_bd_e h
    refine gb_cVi (As := [.int (10 + y4), .int 0]) (rest := []) m_X8_114 (t_X7_emit (Γ := Γ) hS (ok_X7_46 hS) e12) (ok_X7_46 hS).1 rfl (by omega) rfl rfl (Nat.le_of_ble_eq_true rfl) d_X8_readPlain_151 ?_
    refine gb_pop d_X8_readPlain_154 rfl ?_
    refine gb_pick (lv' := [(0, .ref 45), (2, .int y2), (3, .int r9.2)]) [1, 3, 0] rfl ?_
    exact hK155 _ y2 r9.2 h
set_option maxRecDepth 100000 in
set_option maxHeartbeats 4000000 in
theorem t_X8_readPlain_155 {Γ : gb_X} {dR : Nat} {sh : List gb_Sh} {out : gb_G × Int32} {R_X8_readSum : gb_G → Int32 → Option (gb_G × Int32)} {R_X8_readTest : gb_G → Int32 → Option (gb_G × Int32)} (hS : gb_S sh) (hR_X8_readSum : ∀ (g : gb_G) (x : Int32) {o : gb_G × Int32}, R_X8_readSum g x = some o → gb_C Γ M_X8_readSum dR 0 0 sh g [.ref 45, .int x] (gb_Ri sh o)) (hR_X8_readTest : ∀ (g : gb_G) (x : Int32) {o : gb_G × Int32}, R_X8_readTest g x = some o → gb_C Γ M_X8_readTest dR 0 0 sh g [.ref 45, .int x] (gb_Ri sh o)) : ∀ (g : gb_G) (y2 : Int32) (y3 : Int32), f_X8_readPlain_155 sh R_X8_readSum R_X8_readTest g y2 y3 = some out → gb_J Γ M_X8_readPlain (dR + 8) (gb_Ri sh out) 0 0 sh g 155 [(0, .ref 45), (2, .int y2), (3, .int y3)] [] := by
  intro g y2 y3 h
  unfold f_X8_readPlain_155 at h
  refine gb_iload_n d_X8_readPlain_155 rfl ?_
  refine gb_if_eq 169 d_X8_readPlain_156 (by decide) (fun hc => ?_) (fun hc => ?_)
  · have h := gb_it hc h
    refine gb_iload_n d_X8_readPlain_169 rfl ?_
    obtain ⟨hb13, h⟩ := gb_bo_e h
    cases h
    exact gb_zret d_X8_readPlain_170 rfl hb13 ⟨rfl, rfl, rfl⟩
  · have h := gb_if hc h
    refine gb_aload_n d_X8_readPlain_159 rfl ?_
    refine gb_getr (r := 46) f_X8_12 (hS 45 _ rfl) rfl d_X8_readPlain_160 ?_
    refine gb_iconst 2 d_X8_readPlain_163 rfl ?_
    refine gb_iconst 0 d_X8_readPlain_164 rfl ?_
    obtain ⟨r14, e15, h⟩ := gb_bd_e h
    refine gb_cVi (As := [.int 2, .int 0]) (rest := []) m_X8_114 (t_X7_emit (Γ := Γ) hS (ok_X7_46 hS) e15) (ok_X7_46 hS).1 rfl (by omega) rfl rfl (Nat.le_of_ble_eq_true rfl) d_X8_readPlain_165 ?_
    refine gb_pop d_X8_readPlain_168 rfl ?_
    refine gb_iload_n d_X8_readPlain_169 rfl ?_
    obtain ⟨hb16, h⟩ := gb_bo_e h
    cases h
    exact gb_zret d_X8_readPlain_170 rfl hb16 ⟨rfl, rfl, rfl⟩
set_option maxRecDepth 100000 in
set_option maxHeartbeats 4000000 in
theorem t_X8_readPlain_87 {Γ : gb_X} {dR : Nat} {sh : List gb_Sh} {out : gb_G × Int32} {R_X8_readSum : gb_G → Int32 → Option (gb_G × Int32)} {R_X8_readTest : gb_G → Int32 → Option (gb_G × Int32)} (hS : gb_S sh) (hR_X8_readSum : ∀ (g : gb_G) (x : Int32) {o : gb_G × Int32}, R_X8_readSum g x = some o → gb_C Γ M_X8_readSum dR 0 0 sh g [.ref 45, .int x] (gb_Ri sh o)) (hR_X8_readTest : ∀ (g : gb_G) (x : Int32) {o : gb_G × Int32}, R_X8_readTest g x = some o → gb_C Γ M_X8_readTest dR 0 0 sh g [.ref 45, .int x] (gb_Ri sh o)) {K155 : gb_G → Int32 → Int32 → Option (gb_G × Int32)} (hK155 : ∀ (g : gb_G) (y2 : Int32) (y3 : Int32), K155 g y2 y3 = some out → gb_J Γ M_X8_readPlain (dR + 8) (gb_Ri sh out) 0 0 sh g 155 [(0, .ref 45), (2, .int y2), (3, .int y3)] []) : ∀ (g : gb_G) (y2 : Int32) (z0 : Int32), f_X8_readPlain_87 sh R_X8_readSum R_X8_readTest K155 g y2 z0 = some out → gb_J Γ M_X8_readPlain (dR + 8) (gb_Ri sh out) 0 0 sh g 87 [(0, .ref 45), (2, .int y2)] [.int z0] := by
  intro g y2 z0 h
  unfold f_X8_readPlain_87 at h
  refine gb_istore_n [(3, .int z0), (0, .ref 45), (2, .int y2)] d_X8_readPlain_87 (Nat.le_of_ble_eq_true rfl) rfl ?_
  refine gb_goto 155 d_X8_readPlain_88 (by decide) ?_
  refine gb_pick (lv' := [(0, .ref 45), (2, .int y2), (3, .int z0)]) [1, 2, 0] rfl ?_
  exact hK155 _ y2 z0 h
set_option maxRecDepth 100000 in
set_option maxHeartbeats 4000000 in
theorem t_X8_readPlain_36 {Γ : gb_X} {dR : Nat} {sh : List gb_Sh} {out : gb_G × Int32} {R_X8_readSum : gb_G → Int32 → Option (gb_G × Int32)} {R_X8_readTest : gb_G → Int32 → Option (gb_G × Int32)} (hS : gb_S sh) (hR_X8_readSum : ∀ (g : gb_G) (x : Int32) {o : gb_G × Int32}, R_X8_readSum g x = some o → gb_C Γ M_X8_readSum dR 0 0 sh g [.ref 45, .int x] (gb_Ri sh o)) (hR_X8_readTest : ∀ (g : gb_G) (x : Int32) {o : gb_G × Int32}, R_X8_readTest g x = some o → gb_C Γ M_X8_readTest dR 0 0 sh g [.ref 45, .int x] (gb_Ri sh o)) : ∀ (g : gb_G) (y1 : Int32) (y2 : Int32), f_X8_readPlain_36 sh R_X8_readSum R_X8_readTest g y1 y2 = some out → gb_J Γ M_X8_readPlain (dR + 8) (gb_Ri sh out) 0 0 sh g 36 [(0, .ref 45), (1, .int y1), (2, .int y2)] [] := by
  intro g y1 y2 h
  unfold f_X8_readPlain_36 at h
  refine gb_aload_n d_X8_readPlain_36 rfl ?_
  refine gb_getr (r := 43) f_X8_26 (hS 45 _ rfl) rfl d_X8_readPlain_37 ?_
  refine gb_bipush 40 d_X8_readPlain_40 rfl ?_
  obtain ⟨r1, e2, h⟩ := gb_bd_e h
  refine gb_cVi (As := [.int 40]) (rest := []) m_X8_95 (t_X9_isSign (Γ := Γ) hS e2) (hS 43 _ rfl) rfl (by omega) rfl rfl (Nat.le_of_ble_eq_true rfl) d_X8_readPlain_42 ?_
  refine gb_if_eq 91 d_X8_readPlain_45 (by decide) (fun hc => ?_) (fun hc => ?_)
  · have h := gb_it hc h
    refine gb_aload_n d_X8_readPlain_91 rfl ?_
    refine gb_iload_n d_X8_readPlain_92 rfl ?_
    obtain ⟨r3, e4, h⟩ := gb_bd_e h
    refine gb_cVi (As := [.int y1]) (rest := []) m_X8_70 (hR_X8_readSum _ y1 e4) (hS 45 _ rfl) rfl (by omega) rfl rfl (Nat.le_of_ble_eq_true rfl) d_X8_readPlain_93 ?_
    refine gb_istore_n [(3, .int r3.2), (0, .ref 45), (1, .int y1), (2, .int y2)] d_X8_readPlain_96 (Nat.le_of_ble_eq_true rfl) rfl ?_
    refine gb_aload_n d_X8_readPlain_97 rfl ?_
    refine gb_getr (r := 43) f_X8_26 (hS 45 _ rfl) rfl d_X8_readPlain_98 ?_
    refine gb_ldcS 8 rfl d_X8_readPlain_101 ?_
    obtain ⟨r5, e6, h⟩ := gb_bd_e h
    refine gb_cVi (As := [.retAddr (2 + 8)]) (rest := []) m_X8_130 (t_X9_signIn (Γ := Γ) hS (by decide) e6) (hS 43 _ rfl) rfl (by omega) rfl rfl (Nat.le_of_ble_eq_true rfl) d_X8_readPlain_103 ?_
    refine gb_istore [(4, .int r5.2), (3, .int r3.2), (0, .ref 45), (1, .int y1), (2, .int y2)] d_X8_readPlain_106 (Nat.le_of_ble_eq_true rfl) rfl ?_
    refine gb_iload_n d_X8_readPlain_108 rfl ?_
    refine gb_if_eq 122 d_X8_readPlain_109 (by decide) (fun hc => ?_) (fun hc => ?_)
    · have h := gb_it hc h
      refine gb_iconst 0 d_X8_readPlain_122 rfl ?_
      refine gb_pick (lv' := [(0, .ref 45), (1, .int y1), (2, .int y2), (4, .int r5.2)]) [2, 3, 4, 0] rfl ?_
      exact t_X8_readPlain_123 hS hR_X8_readSum hR_X8_readTest (fun w w0 w1 hw => t_X8_readPlain_155 hS hR_X8_readSum hR_X8_readTest  w w0 w1 hw) _ y1 y2 r5.2 0 h
    · have h := gb_if hc h
      refine gb_iload d_X8_readPlain_112 rfl ?_
      refine gb_iconst (-1) d_X8_readPlain_114 rfl ?_
      refine gb_icmp_eq 122 d_X8_readPlain_115 (by decide) (fun hc => ?_) (fun hc => ?_)
      · have h := gb_it hc h
        refine gb_iconst 0 d_X8_readPlain_122 rfl ?_
        refine gb_pick (lv' := [(0, .ref 45), (1, .int y1), (2, .int y2), (4, .int r5.2)]) [2, 3, 4, 0] rfl ?_
        exact t_X8_readPlain_123 hS hR_X8_readSum hR_X8_readTest (fun w w0 w1 hw => t_X8_readPlain_155 hS hR_X8_readSum hR_X8_readTest  w w0 w1 hw) _ y1 y2 r5.2 0 h
      · have h := gb_if hc h
        refine gb_iconst 1 d_X8_readPlain_118 rfl ?_
        refine gb_goto 123 d_X8_readPlain_119 (by decide) ?_
        refine gb_pick (lv' := [(0, .ref 45), (1, .int y1), (2, .int y2), (4, .int r5.2)]) [2, 3, 4, 0] rfl ?_
        exact t_X8_readPlain_123 hS hR_X8_readSum hR_X8_readTest (fun w w0 w1 hw => t_X8_readPlain_155 hS hR_X8_readSum hR_X8_readTest  w w0 w1 hw) _ y1 y2 r5.2 1 h
  · have h := gb_if hc h
    refine gb_iload_n d_X8_readPlain_48 rfl ?_
    refine gb_bipush 8 d_X8_readPlain_49 rfl ?_
    refine gb_icmp_ge 86 d_X8_readPlain_51 (by decide) (fun hc => ?_) (fun hc => ?_)
    · have h := gb_it hc h
      refine gb_iconst 0 d_X8_readPlain_86 rfl ?_
      refine gb_pick (lv' := [(0, .ref 45), (2, .int y2)]) [0, 2] rfl ?_
      exact t_X8_readPlain_87 hS hR_X8_readSum hR_X8_readTest (fun w w0 w1 hw => t_X8_readPlain_155 hS hR_X8_readSum hR_X8_readTest  w w0 w1 hw) _ y2 0 h
    · have h := gb_if hc h
      refine gb_aload_n d_X8_readPlain_54 rfl ?_
      refine gb_bipush 40 d_X8_readPlain_55 rfl ?_
      obtain ⟨r17, e18, h⟩ := gb_bd_e h
      refine gb_cVi (As := [.int 40]) (rest := []) m_X8_42 (t_X8_readSign (Γ := Γ) hS e18) (hS 45 _ rfl) rfl (by omega) rfl rfl (Nat.le_of_ble_eq_true rfl) d_X8_readPlain_57 ?_
      refine gb_if_eq 86 d_X8_readPlain_60 (by decide) (fun hc => ?_) (fun hc => ?_)
      · have h := gb_it hc h
        refine gb_iconst 0 d_X8_readPlain_86 rfl ?_
        refine gb_pick (lv' := [(0, .ref 45), (2, .int y2)]) [0, 2] rfl ?_
        exact t_X8_readPlain_87 hS hR_X8_readSum hR_X8_readTest (fun w w0 w1 hw => t_X8_readPlain_155 hS hR_X8_readSum hR_X8_readTest  w w0 w1 hw) _ y2 0 h
      · have h := gb_if hc h
        refine gb_aload_n d_X8_readPlain_63 rfl ?_
        refine gb_iload_n d_X8_readPlain_64 rfl ?_
        refine gb_iconst 1 d_X8_readPlain_65 rfl ?_
        refine gb_iadd d_X8_readPlain_66 ?_
        obtain ⟨r19, e20, h⟩ := gb_bd_e h
        refine gb_cVi (As := [.int (y1 + 1)]) (rest := []) m_X8_89 (hR_X8_readTest _ (y1 + 1) e20) (hS 45 _ rfl) rfl (by omega) rfl rfl (Nat.le_of_ble_eq_true rfl) d_X8_readPlain_67 ?_
        refine gb_if_eq 86 d_X8_readPlain_70 (by decide) (fun hc => ?_) (fun hc => ?_)
        · have h := gb_it hc h
          refine gb_iconst 0 d_X8_readPlain_86 rfl ?_
          refine gb_pick (lv' := [(0, .ref 45), (2, .int y2)]) [0, 2] rfl ?_
          exact t_X8_readPlain_87 hS hR_X8_readSum hR_X8_readTest (fun w w0 w1 hw => t_X8_readPlain_155 hS hR_X8_readSum hR_X8_readTest  w w0 w1 hw) _ y2 0 h
        · have h := gb_if hc h
          refine gb_aload_n d_X8_readPlain_73 rfl ?_
          refine gb_bipush 41 d_X8_readPlain_74 rfl ?_
          obtain ⟨r21, e22, h⟩ := gb_bd_e h
          refine gb_cVi (As := [.int 41]) (rest := []) m_X8_42 (t_X8_readSign (Γ := Γ) hS e22) (hS 45 _ rfl) rfl (by omega) rfl rfl (Nat.le_of_ble_eq_true rfl) d_X8_readPlain_76 ?_
          refine gb_if_eq 86 d_X8_readPlain_79 (by decide) (fun hc => ?_) (fun hc => ?_)
          · have h := gb_it hc h
            refine gb_iconst 0 d_X8_readPlain_86 rfl ?_
            refine gb_pick (lv' := [(0, .ref 45), (2, .int y2)]) [0, 2] rfl ?_
            exact t_X8_readPlain_87 hS hR_X8_readSum hR_X8_readTest (fun w w0 w1 hw => t_X8_readPlain_155 hS hR_X8_readSum hR_X8_readTest  w w0 w1 hw) _ y2 0 h
          · have h := gb_if hc h
            refine gb_iconst 1 d_X8_readPlain_82 rfl ?_
            refine gb_goto 87 d_X8_readPlain_83 (by decide) ?_
            refine gb_pick (lv' := [(0, .ref 45), (2, .int y2)]) [0, 2] rfl ?_
            exact t_X8_readPlain_87 hS hR_X8_readSum hR_X8_readTest (fun w w0 w1 hw => t_X8_readPlain_155 hS hR_X8_readSum hR_X8_readTest  w w0 w1 hw) _ y2 1 h
set_option maxRecDepth 100000 in
set_option maxHeartbeats 4000000 in
theorem t_X8_readPlain_29 {Γ : gb_X} {dR : Nat} {sh : List gb_Sh} {out : gb_G × Int32} {R_X8_readSum : gb_G → Int32 → Option (gb_G × Int32)} {R_X8_readTest : gb_G → Int32 → Option (gb_G × Int32)} (hS : gb_S sh) (hR_X8_readSum : ∀ (g : gb_G) (x : Int32) {o : gb_G × Int32}, R_X8_readSum g x = some o → gb_C Γ M_X8_readSum dR 0 0 sh g [.ref 45, .int x] (gb_Ri sh o)) (hR_X8_readTest : ∀ (g : gb_G) (x : Int32) {o : gb_G × Int32}, R_X8_readTest g x = some o → gb_C Γ M_X8_readTest dR 0 0 sh g [.ref 45, .int x] (gb_Ri sh o)) {K4 : gb_G → Int32 → Int32 → Int32 → Option (gb_G × Int32)} (hK4 : ∀ (g : gb_G) (y1 : Int32) (y2 : Int32) (y3 : Int32), K4 g y1 y2 y3 = some out → gb_J Γ M_X8_readPlain (dR + 8) (gb_Ri sh out) 0 0 sh g 4 [(0, .ref 45), (1, .int y1), (2, .int y2), (3, .int y3)] []) : ∀ (g : gb_G) (y1 : Int32) (y3 : Int32) (z0 : Int32), f_X8_readPlain_29 sh R_X8_readSum R_X8_readTest K4 g y1 y3 z0 = some out → gb_J Γ M_X8_readPlain (dR + 8) (gb_Ri sh out) 0 0 sh g 29 [(0, .ref 45), (1, .int y1), (3, .int y3)] [.int z0] := by
  intro g y1 y3 z0 h
  unfold f_X8_readPlain_29 at h
  refine gb_istore_n [(2, .int z0), (0, .ref 45), (1, .int y1), (3, .int y3)] d_X8_readPlain_29 (Nat.le_of_ble_eq_true rfl) rfl ?_
  refine gb_iinc (y3 + 1) [(3, .int (y3 + 1)), (2, .int z0), (0, .ref 45), (1, .int y1)] d_X8_readPlain_30 (Nat.le_of_ble_eq_true rfl) rfl rfl rfl ?_
  refine gb_goto 4 d_X8_readPlain_33 (by decide) ?_
  refine gb_pick (lv' := [(0, .ref 45), (1, .int y1), (2, .int z0), (3, .int (y3 + 1))]) [2, 3, 1, 0] rfl ?_
  exact hK4 _ y1 z0 (y3 + 1) h
set_option maxRecDepth 100000 in
set_option maxHeartbeats 4000000 in
theorem t_X8_readPlain_4 {Γ : gb_X} {dR : Nat} {sh : List gb_Sh} {out : gb_G × Int32} {R_X8_readSum : gb_G → Int32 → Option (gb_G × Int32)} {R_X8_readTest : gb_G → Int32 → Option (gb_G × Int32)} (hS : gb_S sh) (hR_X8_readSum : ∀ (g : gb_G) (x : Int32) {o : gb_G × Int32}, R_X8_readSum g x = some o → gb_C Γ M_X8_readSum dR 0 0 sh g [.ref 45, .int x] (gb_Ri sh o)) (hR_X8_readTest : ∀ (g : gb_G) (x : Int32) {o : gb_G × Int32}, R_X8_readTest g x = some o → gb_C Γ M_X8_readTest dR 0 0 sh g [.ref 45, .int x] (gb_Ri sh o)) : ∀ (n : Nat) (g : gb_G) (y1 : Int32) (y2 : Int32) (y3 : Int32), f_X8_readPlain_4 sh R_X8_readSum R_X8_readTest n g y1 y2 y3 = some out → gb_J Γ M_X8_readPlain (dR + 8) (gb_Ri sh out) 0 0 sh g 4 [(0, .ref 45), (1, .int y1), (2, .int y2), (3, .int y3)] [] := by
  intro n
  induction n with
  | zero => intro g y1 y2 y3 h; cases h
  | succ n ih =>
    intro g y1 y2 y3 h
    rw [f_X8_readPlain_4] at h
    refine gb_iload_n d_X8_readPlain_4 rfl ?_
    refine gb_sipush 400 d_X8_readPlain_5 rfl ?_
    refine gb_icmp_ge 36 d_X8_readPlain_8 (by decide) (fun hc => ?_) (fun hc => ?_)
    · have h := gb_it hc h
      refine gb_pick (lv' := [(0, .ref 45), (1, .int y1), (2, .int y2)]) [0, 1, 2] rfl ?_
      exact t_X8_readPlain_36 hS hR_X8_readSum hR_X8_readTest  _ y1 y2 h
    · have h := gb_if hc h
      refine gb_aload_n d_X8_readPlain_11 rfl ?_
      refine gb_ldcS 7 rfl d_X8_readPlain_12 ?_
      obtain ⟨r23, e24, h⟩ := gb_bd_e h
      refine gb_cVi (As := [.retAddr (2 + 7)]) (rest := []) m_X8_78 (t_X8_readKeyword (Γ := Γ) hS (by decide) e24) (hS 45 _ rfl) rfl (by omega) rfl rfl (Nat.le_of_ble_eq_true rfl) d_X8_readPlain_14 ?_
      refine gb_if_eq 36 d_X8_readPlain_17 (by decide) (fun hc => ?_) (fun hc => ?_)
      · have h := gb_it hc h
        refine gb_pick (lv' := [(0, .ref 45), (1, .int y1), (2, .int y2)]) [0, 1, 2] rfl ?_
        exact t_X8_readPlain_36 hS hR_X8_readSum hR_X8_readTest  _ y1 y2 h
      · have h := gb_if hc h
        refine gb_iload_n d_X8_readPlain_20 rfl ?_
        refine gb_if_ne 28 d_X8_readPlain_21 (by decide) (fun hc => ?_) (fun hc => ?_)
        · have h := gb_if hc h
          refine gb_iconst 0 d_X8_readPlain_28 rfl ?_
          refine gb_pick (lv' := [(0, .ref 45), (1, .int y1), (3, .int y3)]) [0, 1, 3] rfl ?_
          exact t_X8_readPlain_29 hS hR_X8_readSum hR_X8_readTest (fun w w0 w1 w2 hw => ih w w0 w1 w2 hw) _ y1 y3 0 h
        · have h := gb_it hc h
          refine gb_iconst 1 d_X8_readPlain_24 rfl ?_
          refine gb_goto 29 d_X8_readPlain_25 (by decide) ?_
          refine gb_pick (lv' := [(0, .ref 45), (1, .int y1), (3, .int y3)]) [0, 1, 3] rfl ?_
          exact t_X8_readPlain_29 hS hR_X8_readSum hR_X8_readTest (fun w w0 w1 w2 hw => ih w w0 w1 w2 hw) _ y1 y3 1 h
set_option maxRecDepth 100000 in
set_option maxHeartbeats 4000000 in
theorem t_X8_readPlain {Γ : gb_X} {dR : Nat} {sh : List gb_Sh} {x1 : Int32} {out : gb_G × Int32} {R_X8_readSum : gb_G → Int32 → Option (gb_G × Int32)} {R_X8_readTest : gb_G → Int32 → Option (gb_G × Int32)} (hS : gb_S sh) (hR_X8_readSum : ∀ (g : gb_G) (x : Int32) {o : gb_G × Int32}, R_X8_readSum g x = some o → gb_C Γ M_X8_readSum dR 0 0 sh g [.ref 45, .int x] (gb_Ri sh o)) (hR_X8_readTest : ∀ (g : gb_G) (x : Int32) {o : gb_G × Int32}, R_X8_readTest g x = some o → gb_C Γ M_X8_readTest dR 0 0 sh g [.ref 45, .int x] (gb_Ri sh o)) {g : gb_G} (h : f_X8_readPlain sh R_X8_readSum R_X8_readTest g x1 = some out) : gb_C Γ M_X8_readPlain (dR + 8) 0 0 sh g [.ref 45, .int x1] (gb_Ri sh out) := by
  refine gb_C.of rfl (Nat.le_of_ble_eq_true rfl) ?_
  refine gb_pick (lv' := [(0, .ref 45), (1, .int x1)]) [0, 1] rfl ?_
  unfold f_X8_readPlain at h
  refine gb_iconst 0 d_X8_readPlain_0 rfl ?_
  refine gb_istore_n [(2, .int 0), (0, .ref 45), (1, .int x1)] d_X8_readPlain_1 (Nat.le_of_ble_eq_true rfl) rfl ?_
  refine gb_iconst 0 d_X8_readPlain_2 rfl ?_
  refine gb_istore_n [(3, .int 0), (2, .int 0), (0, .ref 45), (1, .int x1)] d_X8_readPlain_3 (Nat.le_of_ble_eq_true rfl) rfl ?_
  refine gb_pick (lv' := [(0, .ref 45), (1, .int x1), (2, .int 0), (3, .int 0)]) [2, 3, 1, 0] rfl ?_
  exact t_X8_readPlain_4 hS hR_X8_readSum hR_X8_readTest  gb_N _ x1 0 0 h
-- X8_readBoth
noncomputable def f_X8_readBoth_8 (sh : List gb_Sh) (R_X8_readPlain : gb_G → Int32 → Option (gb_G × Int32)) : Nat → gb_G → Int32 → Int32 → Int32 → Option (gb_G × Int32)
  | 0, _, _, _, _ => none
  | n + 1, g, y1, y2, y3 => if 400 ≤ y3 then (gb_bo y2 (some (g, y2))) else (if y2 = 0 then (gb_bo y2 (some (g, y2))) else (gb_bd (f_X8_readKeyword sh g 6) (fun r5 => if r5.2 = 0 then (gb_bo y2 (some (r5.1, y2))) else (gb_bd (f_X7_emit sh r5.1 46 4 0) (fun r8 => gb_bd (R_X8_readPlain r8.1 y1) (fun r10 => gb_bd (f_X7_aimHere sh r10.1 46 r8.2) (fun r12 => f_X8_readBoth_8 sh R_X8_readPlain n r12 y1 r10.2 (y3 + 1))))))))
noncomputable def f_X8_readBoth (sh : List gb_Sh) (R_X8_readPlain : gb_G → Int32 → Option (gb_G × Int32)) (g : gb_G) (x1 : Int32) : Option (gb_G × Int32) := gb_bd (R_X8_readPlain g x1) (fun r1 => f_X8_readBoth_8 sh R_X8_readPlain gb_N r1.1 x1 r1.2 0)
set_option maxRecDepth 100000 in
set_option maxHeartbeats 4000000 in
theorem t_X8_readBoth_8 {Γ : gb_X} {dR : Nat} {sh : List gb_Sh} {out : gb_G × Int32} {R_X8_readPlain : gb_G → Int32 → Option (gb_G × Int32)} (hS : gb_S sh) (hR_X8_readPlain : ∀ (g : gb_G) (x : Int32) {o : gb_G × Int32}, R_X8_readPlain g x = some o → gb_C Γ M_X8_readPlain dR 0 0 sh g [.ref 45, .int x] (gb_Ri sh o)) : ∀ (n : Nat) (g : gb_G) (y1 : Int32) (y2 : Int32) (y3 : Int32), f_X8_readBoth_8 sh R_X8_readPlain n g y1 y2 y3 = some out → gb_J Γ M_X8_readBoth (dR + 8) (gb_Ri sh out) 0 0 sh g 8 [(0, .ref 45), (1, .int y1), (2, .int y2), (3, .int y3)] [] := by
  intro n
  induction n with
  | zero => intro g y1 y2 y3 h; cases h
  | succ n ih =>
    intro g y1 y2 y3 h
    rw [f_X8_readBoth_8] at h
    refine gb_iload_n d_X8_readBoth_8 rfl ?_
    refine gb_sipush 400 d_X8_readBoth_9 rfl ?_
    refine gb_icmp_ge 60 d_X8_readBoth_12 (by decide) (fun hc => ?_) (fun hc => ?_)
    · have h := gb_it hc h
      refine gb_iload_n d_X8_readBoth_60 rfl ?_
      obtain ⟨hb3, h⟩ := gb_bo_e h
      cases h
      exact gb_zret d_X8_readBoth_61 rfl hb3 ⟨rfl, rfl, rfl⟩
    · have h := gb_if hc h
      refine gb_iload_n d_X8_readBoth_15 rfl ?_
      refine gb_if_eq 60 d_X8_readBoth_16 (by decide) (fun hc => ?_) (fun hc => ?_)
      · have h := gb_it hc h
        refine gb_iload_n d_X8_readBoth_60 rfl ?_
        obtain ⟨hb4, h⟩ := gb_bo_e h
        cases h
        exact gb_zret d_X8_readBoth_61 rfl hb4 ⟨rfl, rfl, rfl⟩
      · have h := gb_if hc h
        refine gb_aload_n d_X8_readBoth_19 rfl ?_
        refine gb_ldcS 6 rfl d_X8_readBoth_20 ?_
        obtain ⟨r5, e6, h⟩ := gb_bd_e h
        refine gb_cVi (As := [.retAddr (2 + 6)]) (rest := []) m_X8_78 (t_X8_readKeyword (Γ := Γ) hS (by decide) e6) (hS 45 _ rfl) rfl (by omega) rfl rfl (Nat.le_of_ble_eq_true rfl) d_X8_readBoth_22 ?_
        refine gb_if_eq 60 d_X8_readBoth_25 (by decide) (fun hc => ?_) (fun hc => ?_)
        · have h := gb_it hc h
          refine gb_iload_n d_X8_readBoth_60 rfl ?_
          obtain ⟨hb7, h⟩ := gb_bo_e h
          cases h
          exact gb_zret d_X8_readBoth_61 rfl hb7 ⟨rfl, rfl, rfl⟩
        · have h := gb_if hc h
          refine gb_aload_n d_X8_readBoth_28 rfl ?_
          refine gb_getr (r := 46) f_X8_12 (hS 45 _ rfl) rfl d_X8_readBoth_29 ?_
          refine gb_iconst 4 d_X8_readBoth_32 rfl ?_
          refine gb_iconst 0 d_X8_readBoth_33 rfl ?_
          obtain ⟨r8, e9, h⟩ := gb_bd_e h
          refine gb_cVi (As := [.int 4, .int 0]) (rest := []) m_X8_114 (t_X7_emit (Γ := Γ) hS (ok_X7_46 hS) e9) (ok_X7_46 hS).1 rfl (by omega) rfl rfl (Nat.le_of_ble_eq_true rfl) d_X8_readBoth_34 ?_
          refine gb_istore [(4, .int r8.2), (0, .ref 45), (1, .int y1), (2, .int y2), (3, .int y3)] d_X8_readBoth_37 (Nat.le_of_ble_eq_true rfl) rfl ?_
          refine gb_aload_n d_X8_readBoth_39 rfl ?_
          refine gb_iload_n d_X8_readBoth_40 rfl ?_
          obtain ⟨r10, e11, h⟩ := gb_bd_e h
          refine gb_cVi (As := [.int y1]) (rest := []) m_X8_121 (hR_X8_readPlain _ y1 e11) (hS 45 _ rfl) rfl (by omega) rfl rfl (Nat.le_of_ble_eq_true rfl) d_X8_readBoth_41 ?_
          refine gb_istore_n [(2, .int r10.2), (4, .int r8.2), (0, .ref 45), (1, .int y1), (3, .int y3)] d_X8_readBoth_44 (Nat.le_of_ble_eq_true rfl) rfl ?_
          refine gb_aload_n d_X8_readBoth_45 rfl ?_
          refine gb_getr (r := 46) f_X8_12 (hS 45 _ rfl) rfl d_X8_readBoth_46 ?_
          refine gb_iload d_X8_readBoth_49 rfl ?_
          obtain ⟨r12, e13, h⟩ := gb_bd_e h
          refine gb_cVv (As := [.int r8.2]) (rest := []) m_X8_118 (t_X7_aimHere (Γ := Γ) hS (ok_X7_46 hS) e13) (ok_X7_46 hS).1 rfl (by omega) rfl rfl (Nat.le_of_ble_eq_true rfl) d_X8_readBoth_51 ?_
          refine gb_iinc (y3 + 1) [(3, .int (y3 + 1)), (2, .int r10.2), (4, .int r8.2), (0, .ref 45), (1, .int y1)] d_X8_readBoth_54 (Nat.le_of_ble_eq_true rfl) rfl rfl rfl ?_
          refine gb_goto 8 d_X8_readBoth_57 (by decide) ?_
          refine gb_pick (lv' := [(0, .ref 45), (1, .int y1), (2, .int r10.2), (3, .int (y3 + 1))]) [3, 4, 1, 0] rfl ?_
          exact ih _ y1 r10.2 (y3 + 1) h
set_option maxRecDepth 100000 in
set_option maxHeartbeats 4000000 in
theorem t_X8_readBoth {Γ : gb_X} {dR : Nat} {sh : List gb_Sh} {x1 : Int32} {out : gb_G × Int32} {R_X8_readPlain : gb_G → Int32 → Option (gb_G × Int32)} (hS : gb_S sh) (hR_X8_readPlain : ∀ (g : gb_G) (x : Int32) {o : gb_G × Int32}, R_X8_readPlain g x = some o → gb_C Γ M_X8_readPlain dR 0 0 sh g [.ref 45, .int x] (gb_Ri sh o)) {g : gb_G} (h : f_X8_readBoth sh R_X8_readPlain g x1 = some out) : gb_C Γ M_X8_readBoth (dR + 8) 0 0 sh g [.ref 45, .int x1] (gb_Ri sh out) := by
  refine gb_C.of rfl (Nat.le_of_ble_eq_true rfl) ?_
  refine gb_pick (lv' := [(0, .ref 45), (1, .int x1)]) [0, 1] rfl ?_
  unfold f_X8_readBoth at h
  refine gb_aload_n d_X8_readBoth_0 rfl ?_
  refine gb_iload_n d_X8_readBoth_1 rfl ?_
  obtain ⟨r1, e2, h⟩ := gb_bd_e h
  refine gb_cVi (As := [.int x1]) (rest := []) m_X8_121 (hR_X8_readPlain _ x1 e2) (hS 45 _ rfl) rfl (by omega) rfl rfl (Nat.le_of_ble_eq_true rfl) d_X8_readBoth_2 ?_
  refine gb_istore_n [(2, .int r1.2), (0, .ref 45), (1, .int x1)] d_X8_readBoth_5 (Nat.le_of_ble_eq_true rfl) rfl ?_
  refine gb_iconst 0 d_X8_readBoth_6 rfl ?_
  refine gb_istore_n [(3, .int 0), (2, .int r1.2), (0, .ref 45), (1, .int x1)] d_X8_readBoth_7 (Nat.le_of_ble_eq_true rfl) rfl ?_
  refine gb_pick (lv' := [(0, .ref 45), (1, .int x1), (2, .int r1.2), (3, .int 0)]) [2, 3, 1, 0] rfl ?_
  exact t_X8_readBoth_8 hS hR_X8_readPlain  gb_N _ x1 r1.2 0 h
-- X8_readTest
noncomputable def f_X8_readTest_8 (sh : List gb_Sh) (R_X8_readBoth : gb_G → Int32 → Option (gb_G × Int32)) : Nat → gb_G → Int32 → Int32 → Int32 → Option (gb_G × Int32)
  | 0, _, _, _, _ => none
  | n + 1, g, y1, y2, y3 => if 400 ≤ y3 then (gb_bo y2 (some (g, y2))) else (if y2 = 0 then (gb_bo y2 (some (g, y2))) else (gb_bd (f_X8_readKeyword sh g 5) (fun r5 => if r5.2 = 0 then (gb_bo y2 (some (r5.1, y2))) else (gb_bd (f_X7_emit sh r5.1 46 3 0) (fun r8 => gb_bd (R_X8_readBoth r8.1 y1) (fun r10 => gb_bd (f_X7_aimHere sh r10.1 46 r8.2) (fun r12 => f_X8_readTest_8 sh R_X8_readBoth n r12 y1 r10.2 (y3 + 1))))))))
noncomputable def f_X8_readTest (sh : List gb_Sh) (R_X8_readBoth : gb_G → Int32 → Option (gb_G × Int32)) (g : gb_G) (x1 : Int32) : Option (gb_G × Int32) := gb_bd (R_X8_readBoth g x1) (fun r1 => f_X8_readTest_8 sh R_X8_readBoth gb_N r1.1 x1 r1.2 0)
set_option maxRecDepth 100000 in
set_option maxHeartbeats 4000000 in
theorem t_X8_readTest_8 {Γ : gb_X} {dR : Nat} {sh : List gb_Sh} {out : gb_G × Int32} {R_X8_readBoth : gb_G → Int32 → Option (gb_G × Int32)} (hS : gb_S sh) (hR_X8_readBoth : ∀ (g : gb_G) (x : Int32) {o : gb_G × Int32}, R_X8_readBoth g x = some o → gb_C Γ M_X8_readBoth dR 0 0 sh g [.ref 45, .int x] (gb_Ri sh o)) : ∀ (n : Nat) (g : gb_G) (y1 : Int32) (y2 : Int32) (y3 : Int32), f_X8_readTest_8 sh R_X8_readBoth n g y1 y2 y3 = some out → gb_J Γ M_X8_readTest (dR + 8) (gb_Ri sh out) 0 0 sh g 8 [(0, .ref 45), (1, .int y1), (2, .int y2), (3, .int y3)] [] := by
  intro n
  induction n with
  | zero => intro g y1 y2 y3 h; cases h
  | succ n ih =>
    intro g y1 y2 y3 h
    rw [f_X8_readTest_8] at h
    refine gb_iload_n d_X8_readTest_8 rfl ?_
    refine gb_sipush 400 d_X8_readTest_9 rfl ?_
    refine gb_icmp_ge 60 d_X8_readTest_12 (by decide) (fun hc => ?_) (fun hc => ?_)
    · have h := gb_it hc h
      refine gb_iload_n d_X8_readTest_60 rfl ?_
      obtain ⟨hb3, h⟩ := gb_bo_e h
      cases h
      exact gb_zret d_X8_readTest_61 rfl hb3 ⟨rfl, rfl, rfl⟩
    · have h := gb_if hc h
      refine gb_iload_n d_X8_readTest_15 rfl ?_
      refine gb_if_eq 60 d_X8_readTest_16 (by decide) (fun hc => ?_) (fun hc => ?_)
      · have h := gb_it hc h
        refine gb_iload_n d_X8_readTest_60 rfl ?_
        obtain ⟨hb4, h⟩ := gb_bo_e h
        cases h
        exact gb_zret d_X8_readTest_61 rfl hb4 ⟨rfl, rfl, rfl⟩
      · have h := gb_if hc h
        refine gb_aload_n d_X8_readTest_19 rfl ?_
        refine gb_ldcS 5 rfl d_X8_readTest_20 ?_
        obtain ⟨r5, e6, h⟩ := gb_bd_e h
        refine gb_cVi (As := [.retAddr (2 + 5)]) (rest := []) m_X8_78 (t_X8_readKeyword (Γ := Γ) hS (by decide) e6) (hS 45 _ rfl) rfl (by omega) rfl rfl (Nat.le_of_ble_eq_true rfl) d_X8_readTest_22 ?_
        refine gb_if_eq 60 d_X8_readTest_25 (by decide) (fun hc => ?_) (fun hc => ?_)
        · have h := gb_it hc h
          refine gb_iload_n d_X8_readTest_60 rfl ?_
          obtain ⟨hb7, h⟩ := gb_bo_e h
          cases h
          exact gb_zret d_X8_readTest_61 rfl hb7 ⟨rfl, rfl, rfl⟩
        · have h := gb_if hc h
          refine gb_aload_n d_X8_readTest_28 rfl ?_
          refine gb_getr (r := 46) f_X8_12 (hS 45 _ rfl) rfl d_X8_readTest_29 ?_
          refine gb_iconst 3 d_X8_readTest_32 rfl ?_
          refine gb_iconst 0 d_X8_readTest_33 rfl ?_
          obtain ⟨r8, e9, h⟩ := gb_bd_e h
          refine gb_cVi (As := [.int 3, .int 0]) (rest := []) m_X8_114 (t_X7_emit (Γ := Γ) hS (ok_X7_46 hS) e9) (ok_X7_46 hS).1 rfl (by omega) rfl rfl (Nat.le_of_ble_eq_true rfl) d_X8_readTest_34 ?_
          refine gb_istore [(4, .int r8.2), (0, .ref 45), (1, .int y1), (2, .int y2), (3, .int y3)] d_X8_readTest_37 (Nat.le_of_ble_eq_true rfl) rfl ?_
          refine gb_aload_n d_X8_readTest_39 rfl ?_
          refine gb_iload_n d_X8_readTest_40 rfl ?_
          obtain ⟨r10, e11, h⟩ := gb_bd_e h
          refine gb_cVi (As := [.int y1]) (rest := []) m_X8_109 (hR_X8_readBoth _ y1 e11) (hS 45 _ rfl) rfl (by omega) rfl rfl (Nat.le_of_ble_eq_true rfl) d_X8_readTest_41 ?_
          refine gb_istore_n [(2, .int r10.2), (4, .int r8.2), (0, .ref 45), (1, .int y1), (3, .int y3)] d_X8_readTest_44 (Nat.le_of_ble_eq_true rfl) rfl ?_
          refine gb_aload_n d_X8_readTest_45 rfl ?_
          refine gb_getr (r := 46) f_X8_12 (hS 45 _ rfl) rfl d_X8_readTest_46 ?_
          refine gb_iload d_X8_readTest_49 rfl ?_
          obtain ⟨r12, e13, h⟩ := gb_bd_e h
          refine gb_cVv (As := [.int r8.2]) (rest := []) m_X8_118 (t_X7_aimHere (Γ := Γ) hS (ok_X7_46 hS) e13) (ok_X7_46 hS).1 rfl (by omega) rfl rfl (Nat.le_of_ble_eq_true rfl) d_X8_readTest_51 ?_
          refine gb_iinc (y3 + 1) [(3, .int (y3 + 1)), (2, .int r10.2), (4, .int r8.2), (0, .ref 45), (1, .int y1)] d_X8_readTest_54 (Nat.le_of_ble_eq_true rfl) rfl rfl rfl ?_
          refine gb_goto 8 d_X8_readTest_57 (by decide) ?_
          refine gb_pick (lv' := [(0, .ref 45), (1, .int y1), (2, .int r10.2), (3, .int (y3 + 1))]) [3, 4, 1, 0] rfl ?_
          exact ih _ y1 r10.2 (y3 + 1) h
set_option maxRecDepth 100000 in
set_option maxHeartbeats 4000000 in
theorem t_X8_readTest {Γ : gb_X} {dR : Nat} {sh : List gb_Sh} {x1 : Int32} {out : gb_G × Int32} {R_X8_readBoth : gb_G → Int32 → Option (gb_G × Int32)} (hS : gb_S sh) (hR_X8_readBoth : ∀ (g : gb_G) (x : Int32) {o : gb_G × Int32}, R_X8_readBoth g x = some o → gb_C Γ M_X8_readBoth dR 0 0 sh g [.ref 45, .int x] (gb_Ri sh o)) {g : gb_G} (h : f_X8_readTest sh R_X8_readBoth g x1 = some out) : gb_C Γ M_X8_readTest (dR + 8) 0 0 sh g [.ref 45, .int x1] (gb_Ri sh out) := by
  refine gb_C.of rfl (Nat.le_of_ble_eq_true rfl) ?_
  refine gb_pick (lv' := [(0, .ref 45), (1, .int x1)]) [0, 1] rfl ?_
  unfold f_X8_readTest at h
  refine gb_aload_n d_X8_readTest_0 rfl ?_
  refine gb_iload_n d_X8_readTest_1 rfl ?_
  obtain ⟨r1, e2, h⟩ := gb_bd_e h
  refine gb_cVi (As := [.int x1]) (rest := []) m_X8_109 (hR_X8_readBoth _ x1 e2) (hS 45 _ rfl) rfl (by omega) rfl rfl (Nat.le_of_ble_eq_true rfl) d_X8_readTest_2 ?_
  refine gb_istore_n [(2, .int r1.2), (0, .ref 45), (1, .int x1)] d_X8_readTest_5 (Nat.le_of_ble_eq_true rfl) rfl ?_
  refine gb_iconst 0 d_X8_readTest_6 rfl ?_
  refine gb_istore_n [(3, .int 0), (2, .int r1.2), (0, .ref 45), (1, .int x1)] d_X8_readTest_7 (Nat.le_of_ble_eq_true rfl) rfl ?_
  refine gb_pick (lv' := [(0, .ref 45), (1, .int x1), (2, .int r1.2), (3, .int 0)]) [2, 3, 1, 0] rfl ?_
  exact t_X8_readTest_8 hS hR_X8_readBoth  gb_N _ x1 r1.2 0 h
-- X8_readTimes
noncomputable def f_X8_readTimes (sh : List gb_Sh) (g : gb_G) : Option (gb_G × Int32) := gb_bd (f_X9_number sh g) (fun r1 => gb_bd (f_X10_within sh r1.1 r1.2 1 20) (fun r3 => if r3.2 = 0 then (some (r3.1, 0)) else (gb_bd (f_X10_within sh r3.1 (r3.1.1 46 3) 0 11) (fun r5 => if r5.2 = 0 then (some (r5.1, 0)) else (gb_ck (r5.1.1 46 3) (gb_ln sh (46 + 4)) (gb_let (gb_pi r5.1 (46 + 4) ((r5.1.1 46 3).toNatClampNeg) r1.2) (fun g8 => gb_bd (f_X9_step sh g8) (fun r9 => some (r9, 1)))))))))
set_option maxRecDepth 100000 in
set_option maxHeartbeats 4000000 in
theorem t_X8_readTimes {Γ : gb_X} {sh : List gb_Sh} {out : gb_G × Int32} (hS : gb_S sh) {g : gb_G} (h : f_X8_readTimes sh g = some out) : gb_C Γ M_X8_readTimes 2 0 0 sh g [.ref 45] (gb_Ri sh out) := by
  refine gb_C.of rfl (Nat.le_of_ble_eq_true rfl) ?_
  refine gb_pick (lv' := [(0, .ref 45)]) [0] rfl ?_
  unfold f_X8_readTimes at h
  refine gb_aload_n d_X8_readTimes_0 rfl ?_
  refine gb_getr (r := 43) f_X8_26 (hS 45 _ rfl) rfl d_X8_readTimes_1 ?_
  obtain ⟨r1, e2, h⟩ := gb_bd_e h
  refine gb_cVi (As := []) (rest := []) m_X8_98 (t_X9_number (Γ := Γ) hS e2) (hS 43 _ rfl) rfl (Nat.le_of_ble_eq_true rfl) rfl rfl (Nat.le_of_ble_eq_true rfl) d_X8_readTimes_4 ?_
  refine gb_istore_n [(1, .int r1.2), (0, .ref 45)] d_X8_readTimes_7 (Nat.le_of_ble_eq_true rfl) rfl ?_
  refine gb_iload_n d_X8_readTimes_8 rfl ?_
  refine gb_iconst 1 d_X8_readTimes_9 rfl ?_
  refine gb_bipush 20 d_X8_readTimes_10 rfl ?_
  obtain ⟨r3, e4, h⟩ := gb_bd_e h
  refine gb_cSNi (As := [.int r1.2, .int 1, .int 20]) (rest := []) m_X8_102 (t_X10_within (Γ := Γ) hS e4) (Nat.le_of_ble_eq_true rfl) rfl rfl (Nat.le_of_ble_eq_true rfl) d_X8_readTimes_12 ?_
  refine gb_if_eq 34 d_X8_readTimes_15 (by decide) (fun hc => ?_) (fun hc => ?_)
  · have h := gb_it hc h
    refine gb_iconst 0 d_X8_readTimes_34 rfl ?_
    cases h
    exact gb_zret d_X8_readTimes_35 rfl rfl ⟨rfl, rfl, rfl⟩
  · have h := gb_if hc h
    refine gb_aload_n d_X8_readTimes_18 rfl ?_
    refine gb_getr (r := 46) f_X8_12 (hS 45 _ rfl) rfl d_X8_readTimes_19 ?_
    refine gb_geti f_X8_92 (ok_X7_46 hS).1 rfl d_X8_readTimes_22 ?_
    refine gb_iconst 0 d_X8_readTimes_25 rfl ?_
    refine gb_bipush 11 d_X8_readTimes_26 rfl ?_
    obtain ⟨r5, e6, h⟩ := gb_bd_e h
    refine gb_cSNi (As := [.int (r3.1.1 46 3), .int 0, .int 11]) (rest := []) m_X8_102 (t_X10_within (Γ := Γ) hS e6) (Nat.le_of_ble_eq_true rfl) rfl rfl (Nat.le_of_ble_eq_true rfl) d_X8_readTimes_28 ?_
    refine gb_if_ne 36 d_X8_readTimes_31 (by decide) (fun hc => ?_) (fun hc => ?_)
    · have h := gb_if hc h
      refine gb_aload_n d_X8_readTimes_36 rfl ?_
      refine gb_getr (r := 46) f_X8_12 (hS 45 _ rfl) rfl d_X8_readTimes_37 ?_
      refine gb_getr (r := (46 + 4)) f_X8_106 (ok_X7_46 hS).1 rfl d_X8_readTimes_40 ?_
      refine gb_aload_n d_X8_readTimes_43 rfl ?_
      refine gb_getr (r := 46) f_X8_12 (hS 45 _ rfl) rfl d_X8_readTimes_44 ?_
      refine gb_geti f_X8_92 (ok_X7_46 hS).1 rfl d_X8_readTimes_47 ?_
      refine gb_iload_n d_X8_readTimes_50 rfl ?_
      obtain ⟨hi7, h⟩ := gb_ck_e h
      refine gb_iast_ ((r5.1.1 46 3).toNatClampNeg) rfl (ok_X7_46 hS).2.2.2.2.1 hi7 d_X8_readTimes_51 ?_
      have h := gb_let_e h
      generalize gb_pi r5.1 (46 + 4) ((r5.1.1 46 3).toNatClampNeg) r1.2 = g8 at h ⊢
      refine gb_aload_n d_X8_readTimes_52 rfl ?_
      refine gb_getr (r := 43) f_X8_26 (hS 45 _ rfl) rfl d_X8_readTimes_53 ?_
      obtain ⟨r9, e10, h⟩ := gb_bd_e h
      refine gb_cVv (As := []) (rest := []) m_X8_63 (t_X9_step (Γ := Γ) hS e10) (hS 43 _ rfl) rfl (Nat.le_of_ble_eq_true rfl) rfl rfl (Nat.le_of_ble_eq_true rfl) d_X8_readTimes_56 ?_
      refine gb_iconst 1 d_X8_readTimes_59 rfl ?_
      cases h
      exact gb_zret d_X8_readTimes_60 rfl rfl ⟨rfl, rfl, rfl⟩
    · have h := gb_it hc h
      refine gb_iconst 0 d_X8_readTimes_34 rfl ?_
      cases h
      exact gb_zret d_X8_readTimes_35 rfl rfl ⟨rfl, rfl, rfl⟩
-- X9_rewind
noncomputable def f_X9_rewind (sh : List gb_Sh) (g : gb_G) : Option (gb_G) := gb_let (gb_pi g 43 3 0) (fun g1 => gb_bd (f_X9_step sh g1) (fun r2 => some r2))
set_option maxRecDepth 100000 in
set_option maxHeartbeats 4000000 in
theorem t_X9_rewind {Γ : gb_X} {sh : List gb_Sh} {out : gb_G} (hS : gb_S sh) {g : gb_G} (h : f_X9_rewind sh g = some out) : gb_C Γ M_X9_rewind 2 0 0 sh g [.ref 43] (gb_Rv sh out) := by
  refine gb_C.of rfl (Nat.le_of_ble_eq_true rfl) ?_
  refine gb_pick (lv' := [(0, .ref 43)]) [0] rfl ?_
  unfold f_X9_rewind at h
  refine gb_aload_n d_X9_rewind_0 rfl ?_
  refine gb_iconst 0 d_X9_rewind_1 rfl ?_
  refine gb_puti f_X9_22 (fun h => nomatch h) (hS 43 _ rfl) rfl rfl rfl d_X9_rewind_2 ?_
  have h := gb_let_e h
  generalize gb_pi g 43 3 0 = g1 at h ⊢
  refine gb_aload_n d_X9_rewind_5 rfl ?_
  obtain ⟨r2, e3, h⟩ := gb_bd_e h
  refine gb_cVv (As := []) (rest := []) m_X9_28 (t_X9_step (Γ := Γ) hS e3) (hS 43 _ rfl) rfl (Nat.le_of_ble_eq_true rfl) rfl rfl (Nat.le_of_ble_eq_true rfl) d_X9_rewind_6 ?_
  cases h
  exact gb_vret d_X9_rewind_9 rfl ⟨rfl, rfl, rfl⟩
-- X9_append
noncomputable def f_X9_append_3 (sh : List gb_Sh) : Nat → gb_G → Int32 → Int32 → Option (gb_G)
  | 0, _, _, _ => none
  | n + 1, g, y1, y2 => if y2 < 0 then (some g) else (if 400 ≤ (g.1 43 1) then (some g) else (gb_ck (g.1 43 1) 400 (gb_let (gb_pi g 44 ((g.1 43 1).toNatClampNeg) (((y1.toUInt32 >>> (y2.toUInt32 &&& Int32.toUInt32 31)).toInt32) &&& 255)) (fun g2 => gb_let (gb_pi g2 43 1 ((g2.1 43 1) + 1)) (fun g3 => f_X9_append_3 sh n g3 y1 (y2 + (-8)))))))
noncomputable def f_X9_append (sh : List gb_Sh) (g : gb_G) (x1 : Int32) : Option (gb_G) := f_X9_append_3 sh gb_N g x1 24
set_option maxRecDepth 100000 in
set_option maxHeartbeats 4000000 in
theorem t_X9_append_3 {Γ : gb_X} {sh : List gb_Sh} {out : gb_G} (hS : gb_S sh) : ∀ (n : Nat) (g : gb_G) (y1 : Int32) (y2 : Int32), f_X9_append_3 sh n g y1 y2 = some out → gb_J Γ M_X9_append 0 (gb_Rv sh out) 0 0 sh g 3 [(0, .ref 43), (1, .int y1), (2, .int y2)] [] := by
  intro n
  induction n with
  | zero => intro g y1 y2 h; cases h
  | succ n ih =>
    intro g y1 y2 h
    rw [f_X9_append_3] at h
    refine gb_iload_n d_X9_append_3 rfl ?_
    refine gb_if_lt 49 d_X9_append_4 (by decide) (fun hc => ?_) (fun hc => ?_)
    · have h := gb_it hc h
      cases h
      exact gb_vret d_X9_append_49 rfl ⟨rfl, rfl, rfl⟩
    · have h := gb_if hc h
      refine gb_aload_n d_X9_append_7 rfl ?_
      refine gb_geti f_X9_15 (hS 43 _ rfl) rfl d_X9_append_8 ?_
      refine gb_sipush 400 d_X9_append_11 rfl ?_
      refine gb_icmp_ge 49 d_X9_append_14 (by decide) (fun hc => ?_) (fun hc => ?_)
      · have h := gb_it hc h
        cases h
        exact gb_vret d_X9_append_49 rfl ⟨rfl, rfl, rfl⟩
      · have h := gb_if hc h
        refine gb_aload_n d_X9_append_17 rfl ?_
        refine gb_getr (r := 44) f_X9_9 (hS 43 _ rfl) rfl d_X9_append_18 ?_
        refine gb_aload_n d_X9_append_21 rfl ?_
        refine gb_geti f_X9_15 (hS 43 _ rfl) rfl d_X9_append_22 ?_
        refine gb_iload_n d_X9_append_25 rfl ?_
        refine gb_iload_n d_X9_append_26 rfl ?_
        refine gb_iushr d_X9_append_27 ?_
        refine gb_sipush 255 d_X9_append_28 rfl ?_
        refine gb_iand d_X9_append_31 ?_
        obtain ⟨hi1, h⟩ := gb_ck_e h
        refine gb_iast_ ((g.1 43 1).toNatClampNeg) rfl (hS 44 _ rfl) hi1 d_X9_append_32 ?_
        have h := gb_let_e h
        generalize gb_pi g 44 ((g.1 43 1).toNatClampNeg) (((y1.toUInt32 >>> (y2.toUInt32 &&& Int32.toUInt32 31)).toInt32) &&& 255) = g2 at h ⊢
        refine gb_aload_n d_X9_append_33 rfl ?_
        refine gb_dup d_X9_append_34 rfl ?_
        refine gb_geti f_X9_15 (hS 43 _ rfl) rfl d_X9_append_35 ?_
        refine gb_iconst 1 d_X9_append_38 rfl ?_
        refine gb_iadd d_X9_append_39 ?_
        refine gb_puti f_X9_15 (fun h => nomatch h) (hS 43 _ rfl) rfl rfl rfl d_X9_append_40 ?_
        have h := gb_let_e h
        generalize gb_pi g2 43 1 ((g2.1 43 1) + 1) = g3 at h ⊢
        refine gb_iinc (y2 + (-8)) [(2, .int (y2 + (-8))), (0, .ref 43), (1, .int y1)] d_X9_append_43 (Nat.le_of_ble_eq_true rfl) rfl rfl rfl ?_
        refine gb_goto 3 d_X9_append_46 (by decide) ?_
        refine gb_pick (lv' := [(0, .ref 43), (1, .int y1), (2, .int (y2 + (-8)))]) [1, 2, 0] rfl ?_
        exact ih _ y1 (y2 + (-8)) h
set_option maxRecDepth 100000 in
set_option maxHeartbeats 4000000 in
theorem t_X9_append {Γ : gb_X} {sh : List gb_Sh} {x1 : Int32} {out : gb_G} (hS : gb_S sh) {g : gb_G} (h : f_X9_append sh g x1 = some out) : gb_C Γ M_X9_append 0 0 0 sh g [.ref 43, .int x1] (gb_Rv sh out) := by
  refine gb_C.of rfl (Nat.le_of_ble_eq_true rfl) ?_
  refine gb_pick (lv' := [(0, .ref 43), (1, .int x1)]) [0, 1] rfl ?_
  unfold f_X9_append at h
  refine gb_bipush 24 d_X9_append_0 rfl ?_
  refine gb_istore_n [(2, .int 24), (0, .ref 43), (1, .int x1)] d_X9_append_2 (Nat.le_of_ble_eq_true rfl) rfl ?_
  refine gb_pick (lv' := [(0, .ref 43), (1, .int x1), (2, .int 24)]) [1, 2, 0] rfl ?_
  exact t_X9_append_3 hS  gb_N _ x1 24 h
-- X10_canBeGood
noncomputable def f_X10_canBeGood (sh : List gb_Sh) (g : gb_G) (x1 : Int32) (x2 : Int32) (x3 : Int32) (x4 : Int32) : Option (gb_G × Int32) := gb_bd (f_X10_within sh g x1 1 12) (fun r1 => if r1.2 = 0 then (some (r1.1, 0)) else (gb_bd (f_X10_within sh r1.1 x2 1 12) (fun r3 => if r3.2 = 0 then (some (r3.1, 0)) else (gb_bd (f_X10_within sh r3.1 x3 0 99) (fun r5 => if r5.2 = 0 then (some (r5.1, 0)) else (gb_bd (f_X10_within sh r5.1 x4 0 9) (fun r7 => if r7.2 = 0 then (some (r7.1, 0)) else (some (r7.1, 1)))))))))
set_option maxRecDepth 100000 in
set_option maxHeartbeats 4000000 in
theorem t_X10_canBeGood {Γ : gb_X} {sh : List gb_Sh} {x1 : Int32} {x2 : Int32} {x3 : Int32} {x4 : Int32} {out : gb_G × Int32} (hS : gb_S sh) {g : gb_G} (h : f_X10_canBeGood sh g x1 x2 x3 x4 = some out) : gb_C Γ M_X10_canBeGood 1 0 0 sh g [.int x1, .int x2, .int x3, .int x4] (gb_Ri sh out) := by
  refine gb_C.of rfl (Nat.le_of_ble_eq_true rfl) ?_
  refine gb_pick (lv' := [(0, .int x1), (1, .int x2), (2, .int x3), (3, .int x4)]) [0, 1, 2, 3] rfl ?_
  unfold f_X10_canBeGood at h
  refine gb_iload_n d_X10_canBeGood_0 rfl ?_
  refine gb_iconst 1 d_X10_canBeGood_1 rfl ?_
  refine gb_bipush 12 d_X10_canBeGood_2 rfl ?_
  obtain ⟨r1, e2, h⟩ := gb_bd_e h
  refine gb_cSi (As := [.int x1, .int 1, .int 12]) (rest := []) m_X10_115 (t_X10_within (Γ := Γ) hS e2) (Nat.le_of_ble_eq_true rfl) rfl rfl (Nat.le_of_ble_eq_true rfl) d_X10_canBeGood_4 ?_
  refine gb_if_eq 44 d_X10_canBeGood_7 (by decide) (fun hc => ?_) (fun hc => ?_)
  · have h := gb_it hc h
    refine gb_iconst 0 d_X10_canBeGood_44 rfl ?_
    cases h
    exact gb_zret d_X10_canBeGood_45 rfl rfl ⟨rfl, rfl, rfl⟩
  · have h := gb_if hc h
    refine gb_iload_n d_X10_canBeGood_10 rfl ?_
    refine gb_iconst 1 d_X10_canBeGood_11 rfl ?_
    refine gb_bipush 12 d_X10_canBeGood_12 rfl ?_
    obtain ⟨r3, e4, h⟩ := gb_bd_e h
    refine gb_cSi (As := [.int x2, .int 1, .int 12]) (rest := []) m_X10_115 (t_X10_within (Γ := Γ) hS e4) (Nat.le_of_ble_eq_true rfl) rfl rfl (Nat.le_of_ble_eq_true rfl) d_X10_canBeGood_14 ?_
    refine gb_if_eq 44 d_X10_canBeGood_17 (by decide) (fun hc => ?_) (fun hc => ?_)
    · have h := gb_it hc h
      refine gb_iconst 0 d_X10_canBeGood_44 rfl ?_
      cases h
      exact gb_zret d_X10_canBeGood_45 rfl rfl ⟨rfl, rfl, rfl⟩
    · have h := gb_if hc h
      refine gb_iload_n d_X10_canBeGood_20 rfl ?_
      refine gb_iconst 0 d_X10_canBeGood_21 rfl ?_
      refine gb_bipush 99 d_X10_canBeGood_22 rfl ?_
      obtain ⟨r5, e6, h⟩ := gb_bd_e h
      refine gb_cSi (As := [.int x3, .int 0, .int 99]) (rest := []) m_X10_115 (t_X10_within (Γ := Γ) hS e6) (Nat.le_of_ble_eq_true rfl) rfl rfl (Nat.le_of_ble_eq_true rfl) d_X10_canBeGood_24 ?_
      refine gb_if_eq 44 d_X10_canBeGood_27 (by decide) (fun hc => ?_) (fun hc => ?_)
      · have h := gb_it hc h
        refine gb_iconst 0 d_X10_canBeGood_44 rfl ?_
        cases h
        exact gb_zret d_X10_canBeGood_45 rfl rfl ⟨rfl, rfl, rfl⟩
      · have h := gb_if hc h
        refine gb_iload_n d_X10_canBeGood_30 rfl ?_
        refine gb_iconst 0 d_X10_canBeGood_31 rfl ?_
        refine gb_bipush 9 d_X10_canBeGood_32 rfl ?_
        obtain ⟨r7, e8, h⟩ := gb_bd_e h
        refine gb_cSi (As := [.int x4, .int 0, .int 9]) (rest := []) m_X10_115 (t_X10_within (Γ := Γ) hS e8) (Nat.le_of_ble_eq_true rfl) rfl rfl (Nat.le_of_ble_eq_true rfl) d_X10_canBeGood_34 ?_
        refine gb_if_eq 44 d_X10_canBeGood_37 (by decide) (fun hc => ?_) (fun hc => ?_)
        · have h := gb_it hc h
          refine gb_iconst 0 d_X10_canBeGood_44 rfl ?_
          cases h
          exact gb_zret d_X10_canBeGood_45 rfl rfl ⟨rfl, rfl, rfl⟩
        · have h := gb_if hc h
          refine gb_iconst 1 d_X10_canBeGood_40 rfl ?_
          refine gb_goto 45 d_X10_canBeGood_41 (by decide) ?_
          cases h
          exact gb_zret d_X10_canBeGood_45 rfl rfl ⟨rfl, rfl, rfl⟩
-- X10_grant
noncomputable def f_X10_grant (sh : List gb_Sh) (g : gb_G) (x1 : Int32) : Option (gb_G × Int32) := gb_let (gb_pi g 0 18 0) (fun g1 => some (g1, x1))
set_option maxRecDepth 100000 in
set_option maxHeartbeats 4000000 in
theorem t_X10_grant {Γ : gb_X} {sh : List gb_Sh} {x1 : Int32} {out : gb_G × Int32} (hS : gb_S sh) {g : gb_G} (h : f_X10_grant sh g x1 = some out) : gb_C Γ M_X10_grant 0 0 0 sh g [.ref 0, .int x1] (gb_Ri sh out) := by
  refine gb_C.of rfl (Nat.le_of_ble_eq_true rfl) ?_
  refine gb_pick (lv' := [(0, .ref 0), (1, .int x1)]) [0, 1] rfl ?_
  unfold f_X10_grant at h
  refine gb_aload_n d_X10_grant_0 rfl ?_
  refine gb_iconst 0 d_X10_grant_1 rfl ?_
  refine gb_puti f_X10_108 (fun h => nomatch h) (hS 0 _ rfl) rfl rfl rfl d_X10_grant_2 ?_
  have h := gb_let_e h
  generalize gb_pi g 0 18 0 = g1 at h ⊢
  refine gb_iload_n d_X10_grant_5 rfl ?_
  cases h
  exact gb_iret d_X10_grant_6 rfl ⟨rfl, rfl, rfl⟩
-- X10_refuse
noncomputable def f_X10_refuse (sh : List gb_Sh) (g : gb_G) (x1 : Int32) : Option (gb_G × Int32) := gb_let (gb_pi g 0 18 x1) (fun g1 => gb_bd (f_X10_within sh g1 (-x1) 0 (7 - 1)) (fun r2 => if r2.2 = 0 then (some (r2.1, x1)) else (gb_ck (-x1) 7 (gb_ck (-x1) 7 (gb_let (gb_pi r2.1 76 ((-x1).toNatClampNeg) ((r2.1.1 76 ((-x1).toNatClampNeg)) + 1)) (fun g6 => some (g6, x1)))))))
set_option maxRecDepth 100000 in
set_option maxHeartbeats 4000000 in
theorem t_X10_refuse {Γ : gb_X} {sh : List gb_Sh} {x1 : Int32} {out : gb_G × Int32} (hS : gb_S sh) {g : gb_G} (h : f_X10_refuse sh g x1 = some out) : gb_C Γ M_X10_refuse 1 0 0 sh g [.ref 0, .int x1] (gb_Ri sh out) := by
  refine gb_C.of rfl (Nat.le_of_ble_eq_true rfl) ?_
  refine gb_pick (lv' := [(0, .ref 0), (1, .int x1)]) [0, 1] rfl ?_
  unfold f_X10_refuse at h
  refine gb_aload_n d_X10_refuse_0 rfl ?_
  refine gb_iload_n d_X10_refuse_1 rfl ?_
  refine gb_puti f_X10_108 (fun h => nomatch h) (hS 0 _ rfl) rfl rfl rfl d_X10_refuse_2 ?_
  have h := gb_let_e h
  generalize gb_pi g 0 18 x1 = g1 at h ⊢
  refine gb_iload_n d_X10_refuse_5 rfl ?_
  refine gb_ineg d_X10_refuse_6 ?_
  refine gb_iconst 0 d_X10_refuse_7 rfl ?_
  refine gb_aload_n d_X10_refuse_8 rfl ?_
  refine gb_getr (r := 76) f_X10_95 (hS 0 _ rfl) rfl d_X10_refuse_9 ?_
  refine gb_alen 7 (by decide) (hS 76 _ rfl) rfl d_X10_refuse_12 ?_
  refine gb_iconst 1 d_X10_refuse_13 rfl ?_
  refine gb_isub d_X10_refuse_14 ?_
  obtain ⟨r2, e3, h⟩ := gb_bd_e h
  refine gb_cSi (As := [.int (-x1), .int 0, .int (7 - 1)]) (rest := []) m_X10_115 (t_X10_within (Γ := Γ) hS e3) (Nat.le_of_ble_eq_true rfl) rfl rfl (Nat.le_of_ble_eq_true rfl) d_X10_refuse_15 ?_
  refine gb_if_eq 32 d_X10_refuse_18 (by decide) (fun hc => ?_) (fun hc => ?_)
  · have h := gb_it hc h
    refine gb_iload_n d_X10_refuse_32 rfl ?_
    cases h
    exact gb_iret d_X10_refuse_33 rfl ⟨rfl, rfl, rfl⟩
  · have h := gb_if hc h
    refine gb_aload_n d_X10_refuse_21 rfl ?_
    refine gb_getr (r := 76) f_X10_95 (hS 0 _ rfl) rfl d_X10_refuse_22 ?_
    refine gb_iload_n d_X10_refuse_25 rfl ?_
    refine gb_ineg d_X10_refuse_26 ?_
    refine gb_dup2 d_X10_refuse_27 rfl rfl ?_
    obtain ⟨hi4, h⟩ := gb_ck_e h
    refine gb_iald_ ((-x1).toNatClampNeg) rfl (hS 76 _ rfl) hi4 d_X10_refuse_28 ?_
    refine gb_iconst 1 d_X10_refuse_29 rfl ?_
    refine gb_iadd d_X10_refuse_30 ?_
    obtain ⟨hi5, h⟩ := gb_ck_e h
    refine gb_iast_ ((-x1).toNatClampNeg) rfl (hS 76 _ rfl) hi5 d_X10_refuse_31 ?_
    have h := gb_let_e h
    generalize gb_pi r2.1 76 ((-x1).toNatClampNeg) ((r2.1.1 76 ((-x1).toNatClampNeg)) + 1) = g6 at h ⊢
    refine gb_iload_n d_X10_refuse_32 rfl ?_
    cases h
    exact gb_iret d_X10_refuse_33 rfl ⟨rfl, rfl, rfl⟩
-- X10_good
noncomputable def f_X10_good_22 (sh : List gb_Sh) (g : gb_G)  : Option (gb_G × Int32) := gb_bd (f_X10_refuse sh g (-1)) (fun r3 => some (r3.1, r3.2))
noncomputable def f_X10_good (sh : List gb_Sh) (g : gb_G) (x1 : Int32) (x2 : Int32) (x3 : Int32) (x4 : Int32) (x5 : Int32) : Option (gb_G × Int32) := gb_bd (f_X10_canBeGood sh g x1 x2 x3 x4) (fun r1 => if r1.2 = 0 then (f_X10_good_22 sh r1.1 ) else (gb_bd (f_X10_within sh r1.1 x5 0 24) (fun r5 => if r5.2 = 0 then (f_X10_good_22 sh r5.1 ) else (if (r5.1.1 1 0) < 8 then (gb_bd (f_X3_clear sh r5.1 33) (fun r7 => gb_bd (f_X0_add sh r7 1 x1 x2 x3 x4 x5) (fun r9 => gb_bd (f_X10_grant sh r9.1 r9.2) (fun r11 => some (r11.1, r11.2))))) else (gb_bd (f_X10_refuse sh r5.1 (-5)) (fun r13 => some (r13.1, r13.2)))))))
set_option maxRecDepth 100000 in
set_option maxHeartbeats 4000000 in
theorem t_X10_good_22 {Γ : gb_X} {sh : List gb_Sh} {out : gb_G × Int32} (hS : gb_S sh) : ∀ (g : gb_G) , f_X10_good_22 sh g  = some out → gb_J Γ M_X10_good 4 (gb_Ri sh out) 0 0 sh g 22 [(0, .ref 0)] [] := by
  intro g  h
  unfold f_X10_good_22 at h
  refine gb_aload_n d_X10_good_22 rfl ?_
  refine gb_iconst (-1) d_X10_good_23 rfl ?_
  obtain ⟨r3, e4, h⟩ := gb_bd_e h
  refine gb_cVi (As := [.int (-1)]) (rest := []) m_X10_119 (t_X10_refuse (Γ := Γ) hS e4) (hS 0 _ rfl) rfl (Nat.le_of_ble_eq_true rfl) rfl rfl (Nat.le_of_ble_eq_true rfl) d_X10_good_24 ?_
  cases h
  exact gb_iret d_X10_good_27 rfl ⟨rfl, rfl, rfl⟩
set_option maxRecDepth 100000 in
set_option maxHeartbeats 4000000 in
theorem t_X10_good {Γ : gb_X} {sh : List gb_Sh} {x1 : Int32} {x2 : Int32} {x3 : Int32} {x4 : Int32} {x5 : Int32} {out : gb_G × Int32} (hS : gb_S sh) {g : gb_G} (h : f_X10_good sh g x1 x2 x3 x4 x5 = some out) : gb_C Γ M_X10_good 4 0 0 sh g [.ref 0, .int x1, .int x2, .int x3, .int x4, .int x5] (gb_Ri sh out) := by
  refine gb_C.of rfl (Nat.le_of_ble_eq_true rfl) ?_
  refine gb_pick (lv' := [(0, .ref 0), (1, .int x1), (2, .int x2), (3, .int x3), (4, .int x4), (5, .int x5)]) [0, 1, 2, 3, 4, 5] rfl ?_
  unfold f_X10_good at h
  refine gb_iload_n d_X10_good_0 rfl ?_
  refine gb_iload_n d_X10_good_1 rfl ?_
  refine gb_iload_n d_X10_good_2 rfl ?_
  refine gb_iload d_X10_good_3 rfl ?_
  obtain ⟨r1, e2, h⟩ := gb_bd_e h
  refine gb_cSi (As := [.int x1, .int x2, .int x3, .int x4]) (rest := []) m_X10_111 (t_X10_canBeGood (Γ := Γ) hS e2) (Nat.le_of_ble_eq_true rfl) rfl rfl (Nat.le_of_ble_eq_true rfl) d_X10_good_5 ?_
  refine gb_if_eq 22 d_X10_good_8 (by decide) (fun hc => ?_) (fun hc => ?_)
  · have h := gb_it hc h
    refine gb_pick (lv' := [(0, .ref 0)]) [0] rfl ?_
    exact t_X10_good_22 hS  _  h
  · have h := gb_if hc h
    refine gb_iload d_X10_good_11 rfl ?_
    refine gb_iconst 0 d_X10_good_13 rfl ?_
    refine gb_bipush 24 d_X10_good_14 rfl ?_
    obtain ⟨r5, e6, h⟩ := gb_bd_e h
    refine gb_cSi (As := [.int x5, .int 0, .int 24]) (rest := []) m_X10_115 (t_X10_within (Γ := Γ) hS e6) (Nat.le_of_ble_eq_true rfl) rfl rfl (Nat.le_of_ble_eq_true rfl) d_X10_good_16 ?_
    refine gb_if_ne 28 d_X10_good_19 (by decide) (fun hc => ?_) (fun hc => ?_)
    · have h := gb_if hc h
      refine gb_aload_n d_X10_good_28 rfl ?_
      refine gb_getr (r := 1) f_X10_14 (hS 0 _ rfl) rfl d_X10_good_29 ?_
      refine gb_geti f_X10_123 (ok_X0_1 hS).1 rfl d_X10_good_32 ?_
      refine gb_bipush 8 d_X10_good_35 rfl ?_
      refine gb_icmp_lt 47 d_X10_good_37 (by decide) (fun hc => ?_) (fun hc => ?_)
      · have h := gb_it hc h
        refine gb_aload_n d_X10_good_47 rfl ?_
        refine gb_getr (r := 33) f_X10_35 (hS 0 _ rfl) rfl d_X10_good_48 ?_
        obtain ⟨r7, e8, h⟩ := gb_bd_e h
        refine gb_cVv (As := []) (rest := []) m_X10_126 (t_X3_clear (Γ := Γ) hS (ok_X3_33 hS) e8) (ok_X3_33 hS).1 rfl (Nat.le_of_ble_eq_true rfl) rfl rfl (Nat.le_of_ble_eq_true rfl) d_X10_good_51 ?_
        refine gb_aload_n d_X10_good_54 rfl ?_
        refine gb_aload_n d_X10_good_55 rfl ?_
        refine gb_getr (r := 1) f_X10_14 (hS 0 _ rfl) rfl d_X10_good_56 ?_
        refine gb_iload_n d_X10_good_59 rfl ?_
        refine gb_iload_n d_X10_good_60 rfl ?_
        refine gb_iload_n d_X10_good_61 rfl ?_
        refine gb_iload d_X10_good_62 rfl ?_
        refine gb_iload d_X10_good_64 rfl ?_
        obtain ⟨r9, e10, h⟩ := gb_bd_e h
        refine gb_cVi (As := [.int x1, .int x2, .int x3, .int x4, .int x5]) (rest := [.ref 0]) m_X10_129 (t_X0_add (Γ := Γ) hS (ok_X0_1 hS) e10) (ok_X0_1 hS).1 rfl (Nat.le_of_ble_eq_true rfl) rfl rfl (Nat.le_of_ble_eq_true rfl) d_X10_good_66 ?_
        obtain ⟨r11, e12, h⟩ := gb_bd_e h
        refine gb_cVi (As := [.int r9.2]) (rest := []) m_X10_133 (t_X10_grant (Γ := Γ) hS e12) (hS 0 _ rfl) rfl (Nat.le_of_ble_eq_true rfl) rfl rfl (Nat.le_of_ble_eq_true rfl) d_X10_good_69 ?_
        cases h
        exact gb_iret d_X10_good_72 rfl ⟨rfl, rfl, rfl⟩
      · have h := gb_if hc h
        refine gb_aload_n d_X10_good_40 rfl ?_
        refine gb_bipush (-5) d_X10_good_41 rfl ?_
        obtain ⟨r13, e14, h⟩ := gb_bd_e h
        refine gb_cVi (As := [.int (-5)]) (rest := []) m_X10_119 (t_X10_refuse (Γ := Γ) hS e14) (hS 0 _ rfl) rfl (Nat.le_of_ble_eq_true rfl) rfl rfl (Nat.le_of_ble_eq_true rfl) d_X10_good_43 ?_
        cases h
        exact gb_iret d_X10_good_46 rfl ⟨rfl, rfl, rfl⟩
    · have h := gb_it hc h
      refine gb_pick (lv' := [(0, .ref 0)]) [0] rfl ?_
      exact t_X10_good_22 hS  _  h
-- X10_of
noncomputable def f_X10_of (sh : List gb_Sh) (g : gb_G) (x1 : Int32) (x2 : Int32) : Option (gb_G × Int32) := gb_bd (f_X0_read sh g 1 x1 x2) (fun r1 => some (r1.1, r1.2))
set_option maxRecDepth 100000 in
set_option maxHeartbeats 4000000 in
theorem t_X10_of {Γ : gb_X} {sh : List gb_Sh} {x1 : Int32} {x2 : Int32} {out : gb_G × Int32} (hS : gb_S sh) {g : gb_G} (h : f_X10_of sh g x1 x2 = some out) : gb_C Γ M_X10_of 1 0 0 sh g [.ref 0, .int x1, .int x2] (gb_Ri sh out) := by
  refine gb_C.of rfl (Nat.le_of_ble_eq_true rfl) ?_
  refine gb_pick (lv' := [(0, .ref 0), (1, .int x1), (2, .int x2)]) [0, 1, 2] rfl ?_
  unfold f_X10_of at h
  refine gb_aload_n d_X10_of_0 rfl ?_
  refine gb_getr (r := 1) f_X10_14 (hS 0 _ rfl) rfl d_X10_of_1 ?_
  refine gb_iload_n d_X10_of_4 rfl ?_
  refine gb_iload_n d_X10_of_5 rfl ?_
  obtain ⟨r1, e2, h⟩ := gb_bd_e h
  refine gb_cVi (As := [.int x1, .int x2]) (rest := []) m_X10_136 (t_X0_read (Γ := Γ) hS (ok_X0_1 hS) e2) (ok_X0_1 hS).1 rfl (Nat.le_of_ble_eq_true rfl) rfl rfl (Nat.le_of_ble_eq_true rfl) d_X10_of_6 ?_
  cases h
  exact gb_iret d_X10_of_9 rfl ⟨rfl, rfl, rfl⟩
-- X10_asks
noncomputable def f_X10_asks_20 (sh : List gb_Sh) (g : gb_G)  : Option (gb_G × Int32) := some (g, (-100000))
noncomputable def f_X10_asks (sh : List gb_Sh) (g : gb_G) (x1 : Int32) (x2 : Int32) : Option (gb_G × Int32) := gb_bd (f_X0_has sh g 1 x1) (fun r1 => if r1.2 = 0 then (f_X10_asks_20 sh r1.1 ) else (gb_bd (f_X10_within sh r1.1 x2 0 3) (fun r3 => if r3.2 = 0 then (f_X10_asks_20 sh r3.1 ) else (gb_bd (f_X0_lawInForce sh r3.1 1) (fun r5 => gb_bd (f_X4_tell sh r5.1 1 r5.2 x1 x2) (fun r7 => some (r7.1, r7.2)))))))
set_option maxRecDepth 100000 in
set_option maxHeartbeats 4000000 in
theorem t_X10_asks_20 {Γ : gb_X} {sh : List gb_Sh} {out : gb_G × Int32} (hS : gb_S sh) : ∀ (g : gb_G) , f_X10_asks_20 sh g  = some out → gb_J Γ M_X10_asks 3 (gb_Ri sh out) 0 0 sh g 20 [] [] := by
  intro g  h
  unfold f_X10_asks_20 at h
  refine gb_ldc (-100000) k_X10_144 d_X10_asks_20 ?_
  cases h
  exact gb_iret d_X10_asks_22 rfl ⟨rfl, rfl, rfl⟩
set_option maxRecDepth 100000 in
set_option maxHeartbeats 4000000 in
theorem t_X10_asks {Γ : gb_X} {sh : List gb_Sh} {x1 : Int32} {x2 : Int32} {out : gb_G × Int32} (hS : gb_S sh) {g : gb_G} (h : f_X10_asks sh g x1 x2 = some out) : gb_C Γ M_X10_asks 3 0 0 sh g [.ref 0, .int x1, .int x2] (gb_Ri sh out) := by
  refine gb_C.of rfl (Nat.le_of_ble_eq_true rfl) ?_
  refine gb_pick (lv' := [(0, .ref 0), (1, .int x1), (2, .int x2)]) [0, 1, 2] rfl ?_
  unfold f_X10_asks at h
  refine gb_aload_n d_X10_asks_0 rfl ?_
  refine gb_getr (r := 1) f_X10_14 (hS 0 _ rfl) rfl d_X10_asks_1 ?_
  refine gb_iload_n d_X10_asks_4 rfl ?_
  obtain ⟨r1, e2, h⟩ := gb_bd_e h
  refine gb_cVi (As := [.int x1]) (rest := []) m_X10_140 (t_X0_has (Γ := Γ) hS (ok_X0_1 hS) e2) (ok_X0_1 hS).1 rfl (Nat.le_of_ble_eq_true rfl) rfl rfl (Nat.le_of_ble_eq_true rfl) d_X10_asks_5 ?_
  refine gb_if_eq 20 d_X10_asks_8 (by decide) (fun hc => ?_) (fun hc => ?_)
  · have h := gb_it hc h
    refine gb_pick (lv' := []) [] rfl ?_
    exact t_X10_asks_20 hS  _  h
  · have h := gb_if hc h
    refine gb_iload_n d_X10_asks_11 rfl ?_
    refine gb_iconst 0 d_X10_asks_12 rfl ?_
    refine gb_iconst 3 d_X10_asks_13 rfl ?_
    obtain ⟨r3, e4, h⟩ := gb_bd_e h
    refine gb_cSi (As := [.int x2, .int 0, .int 3]) (rest := []) m_X10_115 (t_X10_within (Γ := Γ) hS e4) (Nat.le_of_ble_eq_true rfl) rfl rfl (Nat.le_of_ble_eq_true rfl) d_X10_asks_14 ?_
    refine gb_if_ne 23 d_X10_asks_17 (by decide) (fun hc => ?_) (fun hc => ?_)
    · have h := gb_if hc h
      refine gb_aload_n d_X10_asks_23 rfl ?_
      refine gb_getr (r := 54) f_X10_70 (hS 0 _ rfl) rfl d_X10_asks_24 ?_
      refine gb_aload_n d_X10_asks_27 rfl ?_
      refine gb_getr (r := 1) f_X10_14 (hS 0 _ rfl) rfl d_X10_asks_28 ?_
      refine gb_aload_n d_X10_asks_31 rfl ?_
      refine gb_getr (r := 1) f_X10_14 (hS 0 _ rfl) rfl d_X10_asks_32 ?_
      obtain ⟨r5, e6, h⟩ := gb_bd_e h
      refine gb_cVq (As := []) (rest := [.ref 1, .ref 54]) m_X10_145 (t_X0_lawInForce (Γ := Γ) hS (ok_X0_1 hS) e6) (ok_X0_1 hS).1 rfl (Nat.le_of_ble_eq_true rfl) rfl rfl (Nat.le_of_ble_eq_true rfl) d_X10_asks_35 ?_
      refine gb_iload_n d_X10_asks_38 rfl ?_
      refine gb_iload_n d_X10_asks_39 rfl ?_
      obtain ⟨r7, e8, h⟩ := gb_bd_e h
      refine gb_cVi (As := [.ref 1, va_rf r5.2, .int x1, .int x2]) (rest := []) m_X10_149 (t_X4_tell (Γ := Γ) hS (ok_X0_1 hS) e8) (hS 54 _ rfl) rfl (Nat.le_of_ble_eq_true rfl) rfl rfl (Nat.le_of_ble_eq_true rfl) d_X10_asks_40 ?_
      cases h
      exact gb_iret d_X10_asks_43 rfl ⟨rfl, rfl, rfl⟩
    · have h := gb_it hc h
      refine gb_pick (lv' := []) [] rfl ?_
      exact t_X10_asks_20 hS  _  h
-- X10_stand
noncomputable def f_X10_stand_27 (sh : List gb_Sh) (g : gb_G) (y1 : Int32) (y2 : Int32) : Option (gb_G × Int32) := gb_bd (f_X0_has sh g 1 y1) (fun r1 => if r1.2 = 0 then (gb_bd (f_X10_refuse sh r1.1 (-2)) (fun r9 => some (r9.1, r9.2))) else (gb_bd (f_X0_write sh r1.1 1 y1 6 y2) (fun r3 => gb_bd (f_X3_clear sh r3 33) (fun r5 => gb_bd (f_X10_grant sh r5 0) (fun r7 => some (r7.1, r7.2))))))
noncomputable def f_X10_stand_21 (sh : List gb_Sh) (g : gb_G)  : Option (gb_G × Int32) := gb_bd (f_X10_refuse sh g (-1)) (fun r11 => some (r11.1, r11.2))
noncomputable def f_X10_stand (sh : List gb_Sh) (g : gb_G) (x1 : Int32) (x2 : Int32) : Option (gb_G × Int32) := if x2 = (-1) then (f_X10_stand_27 sh g x1 x2) else (if x2 = x1 then (f_X10_stand_21 sh g ) else (gb_bd (f_X0_has sh g 1 x2) (fun r13 => if r13.2 = 0 then (f_X10_stand_21 sh r13.1 ) else (f_X10_stand_27 sh r13.1 x1 x2))))
set_option maxRecDepth 100000 in
set_option maxHeartbeats 4000000 in
theorem t_X10_stand_27 {Γ : gb_X} {sh : List gb_Sh} {out : gb_G × Int32} (hS : gb_S sh) : ∀ (g : gb_G) (y1 : Int32) (y2 : Int32), f_X10_stand_27 sh g y1 y2 = some out → gb_J Γ M_X10_stand 3 (gb_Ri sh out) 0 0 sh g 27 [(0, .ref 0), (1, .int y1), (2, .int y2)] [] := by
  intro g y1 y2 h
  unfold f_X10_stand_27 at h
  refine gb_aload_n d_X10_stand_27 rfl ?_
  refine gb_getr (r := 1) f_X10_14 (hS 0 _ rfl) rfl d_X10_stand_28 ?_
  refine gb_iload_n d_X10_stand_31 rfl ?_
  obtain ⟨r1, e2, h⟩ := gb_bd_e h
  refine gb_cVi (As := [.int y1]) (rest := []) m_X10_140 (t_X0_has (Γ := Γ) hS (ok_X0_1 hS) e2) (ok_X0_1 hS).1 rfl (Nat.le_of_ble_eq_true rfl) rfl rfl (Nat.le_of_ble_eq_true rfl) d_X10_stand_32 ?_
  refine gb_if_ne 45 d_X10_stand_35 (by decide) (fun hc => ?_) (fun hc => ?_)
  · have h := gb_if hc h
    refine gb_aload_n d_X10_stand_45 rfl ?_
    refine gb_getr (r := 1) f_X10_14 (hS 0 _ rfl) rfl d_X10_stand_46 ?_
    refine gb_iload_n d_X10_stand_49 rfl ?_
    refine gb_bipush 6 d_X10_stand_50 rfl ?_
    refine gb_iload_n d_X10_stand_52 rfl ?_
    obtain ⟨r3, e4, h⟩ := gb_bd_e h
    refine gb_cVv (As := [.int y1, .int 6, .int y2]) (rest := []) m_X10_153 (t_X0_write (Γ := Γ) hS (ok_X0_1 hS) e4) (ok_X0_1 hS).1 rfl (Nat.le_of_ble_eq_true rfl) rfl rfl (Nat.le_of_ble_eq_true rfl) d_X10_stand_53 ?_
    refine gb_aload_n d_X10_stand_56 rfl ?_
    refine gb_getr (r := 33) f_X10_35 (hS 0 _ rfl) rfl d_X10_stand_57 ?_
    obtain ⟨r5, e6, h⟩ := gb_bd_e h
    refine gb_cVv (As := []) (rest := []) m_X10_126 (t_X3_clear (Γ := Γ) hS (ok_X3_33 hS) e6) (ok_X3_33 hS).1 rfl (Nat.le_of_ble_eq_true rfl) rfl rfl (Nat.le_of_ble_eq_true rfl) d_X10_stand_60 ?_
    refine gb_aload_n d_X10_stand_63 rfl ?_
    refine gb_iconst 0 d_X10_stand_64 rfl ?_
    obtain ⟨r7, e8, h⟩ := gb_bd_e h
    refine gb_cVi (As := [.int 0]) (rest := []) m_X10_133 (t_X10_grant (Γ := Γ) hS e8) (hS 0 _ rfl) rfl (Nat.le_of_ble_eq_true rfl) rfl rfl (Nat.le_of_ble_eq_true rfl) d_X10_stand_65 ?_
    cases h
    exact gb_iret d_X10_stand_68 rfl ⟨rfl, rfl, rfl⟩
  · have h := gb_it hc h
    refine gb_aload_n d_X10_stand_38 rfl ?_
    refine gb_bipush (-2) d_X10_stand_39 rfl ?_
    obtain ⟨r9, e10, h⟩ := gb_bd_e h
    refine gb_cVi (As := [.int (-2)]) (rest := []) m_X10_119 (t_X10_refuse (Γ := Γ) hS e10) (hS 0 _ rfl) rfl (Nat.le_of_ble_eq_true rfl) rfl rfl (Nat.le_of_ble_eq_true rfl) d_X10_stand_41 ?_
    cases h
    exact gb_iret d_X10_stand_44 rfl ⟨rfl, rfl, rfl⟩
set_option maxRecDepth 100000 in
set_option maxHeartbeats 4000000 in
theorem t_X10_stand_21 {Γ : gb_X} {sh : List gb_Sh} {out : gb_G × Int32} (hS : gb_S sh) : ∀ (g : gb_G) , f_X10_stand_21 sh g  = some out → gb_J Γ M_X10_stand 3 (gb_Ri sh out) 0 0 sh g 21 [(0, .ref 0)] [] := by
  intro g  h
  unfold f_X10_stand_21 at h
  refine gb_aload_n d_X10_stand_21 rfl ?_
  refine gb_iconst (-1) d_X10_stand_22 rfl ?_
  obtain ⟨r11, e12, h⟩ := gb_bd_e h
  refine gb_cVi (As := [.int (-1)]) (rest := []) m_X10_119 (t_X10_refuse (Γ := Γ) hS e12) (hS 0 _ rfl) rfl (Nat.le_of_ble_eq_true rfl) rfl rfl (Nat.le_of_ble_eq_true rfl) d_X10_stand_23 ?_
  cases h
  exact gb_iret d_X10_stand_26 rfl ⟨rfl, rfl, rfl⟩
set_option maxRecDepth 100000 in
set_option maxHeartbeats 4000000 in
theorem t_X10_stand {Γ : gb_X} {sh : List gb_Sh} {x1 : Int32} {x2 : Int32} {out : gb_G × Int32} (hS : gb_S sh) {g : gb_G} (h : f_X10_stand sh g x1 x2 = some out) : gb_C Γ M_X10_stand 3 0 0 sh g [.ref 0, .int x1, .int x2] (gb_Ri sh out) := by
  refine gb_C.of rfl (Nat.le_of_ble_eq_true rfl) ?_
  refine gb_pick (lv' := [(0, .ref 0), (1, .int x1), (2, .int x2)]) [0, 1, 2] rfl ?_
  unfold f_X10_stand at h
  refine gb_iload_n d_X10_stand_0 rfl ?_
  refine gb_iconst (-1) d_X10_stand_1 rfl ?_
  refine gb_icmp_eq 27 d_X10_stand_2 (by decide) (fun hc => ?_) (fun hc => ?_)
  · have h := gb_it hc h
    exact t_X10_stand_27 hS  _ x1 x2 h
  · have h := gb_if hc h
    refine gb_iload_n d_X10_stand_5 rfl ?_
    refine gb_iload_n d_X10_stand_6 rfl ?_
    refine gb_icmp_eq 21 d_X10_stand_7 (by decide) (fun hc => ?_) (fun hc => ?_)
    · have h := gb_it hc h
      refine gb_pick (lv' := [(0, .ref 0)]) [0] rfl ?_
      exact t_X10_stand_21 hS  _  h
    · have h := gb_if hc h
      refine gb_aload_n d_X10_stand_10 rfl ?_
      refine gb_getr (r := 1) f_X10_14 (hS 0 _ rfl) rfl d_X10_stand_11 ?_
      refine gb_iload_n d_X10_stand_14 rfl ?_
      obtain ⟨r13, e14, h⟩ := gb_bd_e h
      refine gb_cVi (As := [.int x2]) (rest := []) m_X10_140 (t_X0_has (Γ := Γ) hS (ok_X0_1 hS) e14) (ok_X0_1 hS).1 rfl (Nat.le_of_ble_eq_true rfl) rfl rfl (Nat.le_of_ble_eq_true rfl) d_X10_stand_15 ?_
      refine gb_if_ne 27 d_X10_stand_18 (by decide) (fun hc => ?_) (fun hc => ?_)
      · have h := gb_if hc h
        exact t_X10_stand_27 hS  _ x1 x2 h
      · have h := gb_it hc h
        refine gb_pick (lv' := [(0, .ref 0)]) [0] rfl ?_
        exact t_X10_stand_21 hS  _  h
-- X10_person
noncomputable def f_X10_person (sh : List gb_Sh) (g : gb_G) : Option (gb_G × Int32) := if (g.1 1 2) < 5 then (gb_let (gb_pi g 1 2 ((g.1 1 2) + 1)) (fun g1 => gb_bd (f_X10_grant sh g1 ((g1.1 1 2) - 1)) (fun r2 => some (r2.1, r2.2)))) else (gb_bd (f_X10_refuse sh g (-5)) (fun r4 => some (r4.1, r4.2)))
set_option maxRecDepth 100000 in
set_option maxHeartbeats 4000000 in
theorem t_X10_person {Γ : gb_X} {sh : List gb_Sh} {out : gb_G × Int32} (hS : gb_S sh) {g : gb_G} (h : f_X10_person sh g = some out) : gb_C Γ M_X10_person 2 0 0 sh g [.ref 0] (gb_Ri sh out) := by
  refine gb_C.of rfl (Nat.le_of_ble_eq_true rfl) ?_
  refine gb_pick (lv' := [(0, .ref 0)]) [0] rfl ?_
  unfold f_X10_person at h
  refine gb_aload_n d_X10_person_0 rfl ?_
  refine gb_getr (r := 1) f_X10_14 (hS 0 _ rfl) rfl d_X10_person_1 ?_
  refine gb_geti f_X10_157 (ok_X0_1 hS).1 rfl d_X10_person_4 ?_
  refine gb_iconst 5 d_X10_person_7 rfl ?_
  refine gb_icmp_lt 18 d_X10_person_8 (by decide) (fun hc => ?_) (fun hc => ?_)
  · have h := gb_it hc h
    refine gb_aload_n d_X10_person_18 rfl ?_
    refine gb_getr (r := 1) f_X10_14 (hS 0 _ rfl) rfl d_X10_person_19 ?_
    refine gb_dup d_X10_person_22 rfl ?_
    refine gb_geti f_X10_157 (ok_X0_1 hS).1 rfl d_X10_person_23 ?_
    refine gb_iconst 1 d_X10_person_26 rfl ?_
    refine gb_iadd d_X10_person_27 ?_
    refine gb_puti f_X10_157 (fun h => nomatch h) (ok_X0_1 hS).1 rfl rfl rfl d_X10_person_28 ?_
    have h := gb_let_e h
    generalize gb_pi g 1 2 ((g.1 1 2) + 1) = g1 at h ⊢
    refine gb_aload_n d_X10_person_31 rfl ?_
    refine gb_aload_n d_X10_person_32 rfl ?_
    refine gb_getr (r := 1) f_X10_14 (hS 0 _ rfl) rfl d_X10_person_33 ?_
    refine gb_geti f_X10_157 (ok_X0_1 hS).1 rfl d_X10_person_36 ?_
    refine gb_iconst 1 d_X10_person_39 rfl ?_
    refine gb_isub d_X10_person_40 ?_
    obtain ⟨r2, e3, h⟩ := gb_bd_e h
    refine gb_cVi (As := [.int ((g1.1 1 2) - 1)]) (rest := []) m_X10_133 (t_X10_grant (Γ := Γ) hS e3) (hS 0 _ rfl) rfl (Nat.le_of_ble_eq_true rfl) rfl rfl (Nat.le_of_ble_eq_true rfl) d_X10_person_41 ?_
    cases h
    exact gb_iret d_X10_person_44 rfl ⟨rfl, rfl, rfl⟩
  · have h := gb_if hc h
    refine gb_aload_n d_X10_person_11 rfl ?_
    refine gb_bipush (-5) d_X10_person_12 rfl ?_
    obtain ⟨r4, e5, h⟩ := gb_bd_e h
    refine gb_cVi (As := [.int (-5)]) (rest := []) m_X10_119 (t_X10_refuse (Γ := Γ) hS e5) (hS 0 _ rfl) rfl (Nat.le_of_ble_eq_true rfl) rfl rfl (Nat.le_of_ble_eq_true rfl) d_X10_person_14 ?_
    cases h
    exact gb_iret d_X10_person_17 rfl ⟨rfl, rfl, rfl⟩
-- X10_own
noncomputable def f_X10_own_44 (sh : List gb_Sh) (g : gb_G)  : Option (gb_G × Int32) := gb_bd (f_X10_refuse sh g (-2)) (fun r5 => some (r5.1, r5.2))
noncomputable def f_X10_own (sh : List gb_Sh) (g : gb_G) (x1 : Int32) (x2 : Int32) (x3 : Int32) : Option (gb_G × Int32) := gb_bd (f_X10_within sh g x3 0 9) (fun r1 => if r1.2 = 0 then (gb_bd (f_X10_refuse sh r1.1 (-1)) (fun r15 => some (r15.1, r15.2))) else (gb_bd (f_X10_within sh r1.1 x1 0 ((r1.1.1 1 2) - 1)) (fun r3 => if r3.2 = 0 then (f_X10_own_44 sh r3.1 ) else (gb_bd (f_X0_has sh r3.1 1 x2) (fun r7 => if r7.2 = 0 then (f_X10_own_44 sh r7.1 ) else (gb_bd (f_X0_ownWeight sh r7.1 1 x1 x2) (fun r9 => gb_ck ((x1 * 8) + x2) 40 (gb_let (gb_pi r9.1 (1 + 2) (((x1 * 8) + x2).toNatClampNeg) x3) (fun g12 => gb_bd (f_X10_grant sh g12 r9.2) (fun r13 => some (r13.1, r13.2)))))))))))
set_option maxRecDepth 100000 in
set_option maxHeartbeats 4000000 in
theorem t_X10_own_44 {Γ : gb_X} {sh : List gb_Sh} {out : gb_G × Int32} (hS : gb_S sh) : ∀ (g : gb_G) , f_X10_own_44 sh g  = some out → gb_J Γ M_X10_own 2 (gb_Ri sh out) 0 0 sh g 44 [(0, .ref 0)] [] := by
  intro g  h
  unfold f_X10_own_44 at h
  refine gb_aload_n d_X10_own_44 rfl ?_
  refine gb_bipush (-2) d_X10_own_45 rfl ?_
  obtain ⟨r5, e6, h⟩ := gb_bd_e h
  refine gb_cVi (As := [.int (-2)]) (rest := []) m_X10_119 (t_X10_refuse (Γ := Γ) hS e6) (hS 0 _ rfl) rfl (Nat.le_of_ble_eq_true rfl) rfl rfl (Nat.le_of_ble_eq_true rfl) d_X10_own_47 ?_
  cases h
  exact gb_iret d_X10_own_50 rfl ⟨rfl, rfl, rfl⟩
set_option maxRecDepth 100000 in
set_option maxHeartbeats 4000000 in
theorem t_X10_own {Γ : gb_X} {sh : List gb_Sh} {x1 : Int32} {x2 : Int32} {x3 : Int32} {out : gb_G × Int32} (hS : gb_S sh) {g : gb_G} (h : f_X10_own sh g x1 x2 x3 = some out) : gb_C Γ M_X10_own 2 0 0 sh g [.ref 0, .int x1, .int x2, .int x3] (gb_Ri sh out) := by
  refine gb_C.of rfl (Nat.le_of_ble_eq_true rfl) ?_
  refine gb_pick (lv' := [(0, .ref 0), (1, .int x1), (2, .int x2), (3, .int x3)]) [0, 1, 2, 3] rfl ?_
  unfold f_X10_own at h
  refine gb_iload_n d_X10_own_0 rfl ?_
  refine gb_iconst 0 d_X10_own_1 rfl ?_
  refine gb_bipush 9 d_X10_own_2 rfl ?_
  obtain ⟨r1, e2, h⟩ := gb_bd_e h
  refine gb_cSi (As := [.int x3, .int 0, .int 9]) (rest := []) m_X10_115 (t_X10_within (Γ := Γ) hS e2) (Nat.le_of_ble_eq_true rfl) rfl rfl (Nat.le_of_ble_eq_true rfl) d_X10_own_4 ?_
  refine gb_if_ne 16 d_X10_own_7 (by decide) (fun hc => ?_) (fun hc => ?_)
  · have h := gb_if hc h
    refine gb_iload_n d_X10_own_16 rfl ?_
    refine gb_iconst 0 d_X10_own_17 rfl ?_
    refine gb_aload_n d_X10_own_18 rfl ?_
    refine gb_getr (r := 1) f_X10_14 (hS 0 _ rfl) rfl d_X10_own_19 ?_
    refine gb_geti f_X10_157 (ok_X0_1 hS).1 rfl d_X10_own_22 ?_
    refine gb_iconst 1 d_X10_own_25 rfl ?_
    refine gb_isub d_X10_own_26 ?_
    obtain ⟨r3, e4, h⟩ := gb_bd_e h
    refine gb_cSi (As := [.int x1, .int 0, .int ((r1.1.1 1 2) - 1)]) (rest := []) m_X10_115 (t_X10_within (Γ := Γ) hS e4) (Nat.le_of_ble_eq_true rfl) rfl rfl (Nat.le_of_ble_eq_true rfl) d_X10_own_27 ?_
    refine gb_if_eq 44 d_X10_own_30 (by decide) (fun hc => ?_) (fun hc => ?_)
    · have h := gb_it hc h
      refine gb_pick (lv' := [(0, .ref 0)]) [0] rfl ?_
      exact t_X10_own_44 hS  _  h
    · have h := gb_if hc h
      refine gb_aload_n d_X10_own_33 rfl ?_
      refine gb_getr (r := 1) f_X10_14 (hS 0 _ rfl) rfl d_X10_own_34 ?_
      refine gb_iload_n d_X10_own_37 rfl ?_
      obtain ⟨r7, e8, h⟩ := gb_bd_e h
      refine gb_cVi (As := [.int x2]) (rest := []) m_X10_140 (t_X0_has (Γ := Γ) hS (ok_X0_1 hS) e8) (ok_X0_1 hS).1 rfl (Nat.le_of_ble_eq_true rfl) rfl rfl (Nat.le_of_ble_eq_true rfl) d_X10_own_38 ?_
      refine gb_if_ne 51 d_X10_own_41 (by decide) (fun hc => ?_) (fun hc => ?_)
      · have h := gb_if hc h
        refine gb_aload_n d_X10_own_51 rfl ?_
        refine gb_getr (r := 1) f_X10_14 (hS 0 _ rfl) rfl d_X10_own_52 ?_
        refine gb_iload_n d_X10_own_55 rfl ?_
        refine gb_iload_n d_X10_own_56 rfl ?_
        obtain ⟨r9, e10, h⟩ := gb_bd_e h
        refine gb_cVi (As := [.int x1, .int x2]) (rest := []) m_X10_160 (t_X0_ownWeight (Γ := Γ) hS (ok_X0_1 hS) e10) (ok_X0_1 hS).1 rfl (Nat.le_of_ble_eq_true rfl) rfl rfl (Nat.le_of_ble_eq_true rfl) d_X10_own_57 ?_
        refine gb_istore [(4, .int r9.2), (0, .ref 0), (1, .int x1), (2, .int x2), (3, .int x3)] d_X10_own_60 (Nat.le_of_ble_eq_true rfl) rfl ?_
        refine gb_aload_n d_X10_own_62 rfl ?_
        refine gb_getr (r := 1) f_X10_14 (hS 0 _ rfl) rfl d_X10_own_63 ?_
        refine gb_getr (r := (1 + 2)) f_X10_163 (ok_X0_1 hS).1 rfl d_X10_own_66 ?_
        refine gb_iload_n d_X10_own_69 rfl ?_
        refine gb_bipush 8 d_X10_own_70 rfl ?_
        refine gb_imul d_X10_own_72 ?_
        refine gb_iload_n d_X10_own_73 rfl ?_
        refine gb_iadd d_X10_own_74 ?_
        refine gb_iload_n d_X10_own_75 rfl ?_
        obtain ⟨hi11, h⟩ := gb_ck_e h
        refine gb_iast_ (((x1 * 8) + x2).toNatClampNeg) rfl (ok_X0_1 hS).2.2.1 hi11 d_X10_own_76 ?_
        have h := gb_let_e h
        generalize gb_pi r9.1 (1 + 2) (((x1 * 8) + x2).toNatClampNeg) x3 = g12 at h ⊢
        refine gb_aload_n d_X10_own_77 rfl ?_
        refine gb_iload d_X10_own_78 rfl ?_
        obtain ⟨r13, e14, h⟩ := gb_bd_e h
        refine gb_cVi (As := [.int r9.2]) (rest := []) m_X10_133 (t_X10_grant (Γ := Γ) hS e14) (hS 0 _ rfl) rfl (Nat.le_of_ble_eq_true rfl) rfl rfl (Nat.le_of_ble_eq_true rfl) d_X10_own_80 ?_
        cases h
        exact gb_iret d_X10_own_83 rfl ⟨rfl, rfl, rfl⟩
      · have h := gb_it hc h
        refine gb_pick (lv' := [(0, .ref 0)]) [0] rfl ?_
        exact t_X10_own_44 hS  _  h
  · have h := gb_it hc h
    refine gb_aload_n d_X10_own_10 rfl ?_
    refine gb_iconst (-1) d_X10_own_11 rfl ?_
    obtain ⟨r15, e16, h⟩ := gb_bd_e h
    refine gb_cVi (As := [.int (-1)]) (rest := []) m_X10_119 (t_X10_refuse (Γ := Γ) hS e16) (hS 0 _ rfl) rfl (Nat.le_of_ble_eq_true rfl) rfl rfl (Nat.le_of_ble_eq_true rfl) d_X10_own_12 ?_
    cases h
    exact gb_iret d_X10_own_15 rfl ⟨rfl, rfl, rfl⟩
-- X10_terms
noncomputable def f_X10_terms_22 (sh : List gb_Sh) (g : gb_G)  : Option (gb_G × Int32) := gb_bd (f_X10_refuse sh g (-1)) (fun r3 => some (r3.1, r3.2))
noncomputable def f_X10_terms (sh : List gb_Sh) (g : gb_G) (x1 : Int32) (x2 : Int32) : Option (gb_G × Int32) := gb_bd (f_X10_within sh g x1 0 2) (fun r1 => if r1.2 = 0 then (f_X10_terms_22 sh r1.1 ) else (gb_ck x1 3 (gb_bd (f_X10_within sh r1.1 x2 0 (gb_top x1.toNatClampNeg)) (fun r6 => if r6.2 = 0 then (f_X10_terms_22 sh r6.1 ) else (gb_ck x1 3 (gb_ck x1 3 (gb_let (gb_pi r6.1 (1 + 4) x1.toNatClampNeg x2) (fun g10 => gb_bd (f_X3_clear sh g10 33) (fun r11 => gb_bd (f_X10_grant sh r11 (r6.1.1 (1 + 4) x1.toNatClampNeg)) (fun r13 => some (r13.1, r13.2)))))))))))
set_option maxRecDepth 100000 in
set_option maxHeartbeats 4000000 in
theorem t_X10_terms_22 {Γ : gb_X} {sh : List gb_Sh} {out : gb_G × Int32} (hS : gb_S sh) : ∀ (g : gb_G) , f_X10_terms_22 sh g  = some out → gb_J Γ M_X10_terms 2 (gb_Ri sh out) 0 0 sh g 22 [(0, .ref 0)] [] := by
  intro g  h
  unfold f_X10_terms_22 at h
  refine gb_aload_n d_X10_terms_22 rfl ?_
  refine gb_iconst (-1) d_X10_terms_23 rfl ?_
  obtain ⟨r3, e4, h⟩ := gb_bd_e h
  refine gb_cVi (As := [.int (-1)]) (rest := []) m_X10_119 (t_X10_refuse (Γ := Γ) hS e4) (hS 0 _ rfl) rfl (Nat.le_of_ble_eq_true rfl) rfl rfl (Nat.le_of_ble_eq_true rfl) d_X10_terms_24 ?_
  cases h
  exact gb_iret d_X10_terms_27 rfl ⟨rfl, rfl, rfl⟩
set_option maxRecDepth 100000 in
set_option maxHeartbeats 4000000 in
theorem t_X10_terms {Γ : gb_X} {sh : List gb_Sh} {x1 : Int32} {x2 : Int32} {out : gb_G × Int32} (hS : gb_S sh) {g : gb_G} (h : f_X10_terms sh g x1 x2 = some out) : gb_C Γ M_X10_terms 2 0 0 sh g [.ref 0, .int x1, .int x2] (gb_Ri sh out) := by
  refine gb_C.of rfl (Nat.le_of_ble_eq_true rfl) ?_
  refine gb_pick (lv' := [(0, .ref 0), (1, .int x1), (2, .int x2)]) [0, 1, 2] rfl ?_
  unfold f_X10_terms at h
  refine gb_iload_n d_X10_terms_0 rfl ?_
  refine gb_iconst 0 d_X10_terms_1 rfl ?_
  refine gb_iconst 2 d_X10_terms_2 rfl ?_
  obtain ⟨r1, e2, h⟩ := gb_bd_e h
  refine gb_cSi (As := [.int x1, .int 0, .int 2]) (rest := []) m_X10_115 (t_X10_within (Γ := Γ) hS e2) (Nat.le_of_ble_eq_true rfl) rfl rfl (Nat.le_of_ble_eq_true rfl) d_X10_terms_3 ?_
  refine gb_if_eq 22 d_X10_terms_6 (by decide) (fun hc => ?_) (fun hc => ?_)
  · have h := gb_it hc h
    refine gb_pick (lv' := [(0, .ref 0)]) [0] rfl ?_
    exact t_X10_terms_22 hS  _  h
  · have h := gb_if hc h
    refine gb_iload_n d_X10_terms_9 rfl ?_
    refine gb_iconst 0 d_X10_terms_10 rfl ?_
    refine gb_gst (v := .retAddr 1) (fun h => h.1) rf_X10_166 d_X10_terms_11 ?_
    refine gb_iload_n d_X10_terms_14 rfl ?_
    obtain ⟨hi5, h⟩ := gb_ck_e h
    refine gb_riald (f := gb_top) (fun h => h.2.1) hi5 d_X10_terms_15 ?_
    obtain ⟨r6, e7, h⟩ := gb_bd_e h
    refine gb_cSi (As := [.int x2, .int 0, .int (gb_top x1.toNatClampNeg)]) (rest := []) m_X10_115 (t_X10_within (Γ := Γ) hS e7) (Nat.le_of_ble_eq_true rfl) rfl rfl (Nat.le_of_ble_eq_true rfl) d_X10_terms_16 ?_
    refine gb_if_ne 28 d_X10_terms_19 (by decide) (fun hc => ?_) (fun hc => ?_)
    · have h := gb_if hc h
      refine gb_aload_n d_X10_terms_28 rfl ?_
      refine gb_getr (r := 1) f_X10_14 (hS 0 _ rfl) rfl d_X10_terms_29 ?_
      refine gb_getr (r := (1 + 4)) f_X10_169 (ok_X0_1 hS).1 rfl d_X10_terms_32 ?_
      refine gb_iload_n d_X10_terms_35 rfl ?_
      obtain ⟨hi8, h⟩ := gb_ck_e h
      refine gb_iald_ x1.toNatClampNeg rfl (ok_X0_1 hS).2.2.2.2.1 hi8 d_X10_terms_36 ?_
      refine gb_istore_n [(3, .int (r6.1.1 (1 + 4) x1.toNatClampNeg)), (0, .ref 0), (1, .int x1), (2, .int x2)] d_X10_terms_37 (Nat.le_of_ble_eq_true rfl) rfl ?_
      refine gb_aload_n d_X10_terms_38 rfl ?_
      refine gb_getr (r := 1) f_X10_14 (hS 0 _ rfl) rfl d_X10_terms_39 ?_
      refine gb_getr (r := (1 + 4)) f_X10_169 (ok_X0_1 hS).1 rfl d_X10_terms_42 ?_
      refine gb_iload_n d_X10_terms_45 rfl ?_
      refine gb_iload_n d_X10_terms_46 rfl ?_
      obtain ⟨hi9, h⟩ := gb_ck_e h
      refine gb_iast_ x1.toNatClampNeg rfl (ok_X0_1 hS).2.2.2.2.1 hi9 d_X10_terms_47 ?_
      have h := gb_let_e h
      generalize gb_pi r6.1 (1 + 4) x1.toNatClampNeg x2 = g10 at h ⊢
      refine gb_aload_n d_X10_terms_48 rfl ?_
      refine gb_getr (r := 33) f_X10_35 (hS 0 _ rfl) rfl d_X10_terms_49 ?_
      obtain ⟨r11, e12, h⟩ := gb_bd_e h
      refine gb_cVv (As := []) (rest := []) m_X10_126 (t_X3_clear (Γ := Γ) hS (ok_X3_33 hS) e12) (ok_X3_33 hS).1 rfl (Nat.le_of_ble_eq_true rfl) rfl rfl (Nat.le_of_ble_eq_true rfl) d_X10_terms_52 ?_
      refine gb_aload_n d_X10_terms_55 rfl ?_
      refine gb_iload_n d_X10_terms_56 rfl ?_
      obtain ⟨r13, e14, h⟩ := gb_bd_e h
      refine gb_cVi (As := [.int (r6.1.1 (1 + 4) x1.toNatClampNeg)]) (rest := []) m_X10_133 (t_X10_grant (Γ := Γ) hS e14) (hS 0 _ rfl) rfl (Nat.le_of_ble_eq_true rfl) rfl rfl (Nat.le_of_ble_eq_true rfl) d_X10_terms_57 ?_
      cases h
      exact gb_iret d_X10_terms_60 rfl ⟨rfl, rfl, rfl⟩
    · have h := gb_it hc h
      refine gb_pick (lv' := [(0, .ref 0)]) [0] rfl ?_
      exact t_X10_terms_22 hS  _  h
-- X10_feed
noncomputable def f_X10_feed (sh : List gb_Sh) (g : gb_G) (x1 : Int32) (x2 : Int32) (x3 : Int32) (x4 : Int32) (x5 : Int32) : Option (gb_G × Int32) := if ((g.1 43 1) + 20) ≤ 400 then (gb_bd (f_X9_append sh g x1) (fun r1 => gb_bd (f_X9_append sh r1 x2) (fun r3 => gb_bd (f_X9_append sh r3 x3) (fun r5 => gb_bd (f_X9_append sh r5 x4) (fun r7 => gb_bd (f_X9_append sh r7 x5) (fun r9 => some (r9, (r9.1 43 1)))))))) else (some (g, (-1)))
set_option maxRecDepth 100000 in
set_option maxHeartbeats 4000000 in
theorem t_X10_feed {Γ : gb_X} {sh : List gb_Sh} {x1 : Int32} {x2 : Int32} {x3 : Int32} {x4 : Int32} {x5 : Int32} {out : gb_G × Int32} (hS : gb_S sh) {g : gb_G} (h : f_X10_feed sh g x1 x2 x3 x4 x5 = some out) : gb_C Γ M_X10_feed 1 0 0 sh g [.ref 0, .int x1, .int x2, .int x3, .int x4, .int x5] (gb_Ri sh out) := by
  refine gb_C.of rfl (Nat.le_of_ble_eq_true rfl) ?_
  refine gb_pick (lv' := [(0, .ref 0), (1, .int x1), (2, .int x2), (3, .int x3), (4, .int x4), (5, .int x5)]) [0, 1, 2, 3, 4, 5] rfl ?_
  unfold f_X10_feed at h
  refine gb_aload_n d_X10_feed_0 rfl ?_
  refine gb_getr (r := 43) f_X10_45 (hS 0 _ rfl) rfl d_X10_feed_1 ?_
  refine gb_geti f_X10_172 (hS 43 _ rfl) rfl d_X10_feed_4 ?_
  refine gb_bipush 20 d_X10_feed_7 rfl ?_
  refine gb_iadd d_X10_feed_9 ?_
  refine gb_sipush 400 d_X10_feed_10 rfl ?_
  refine gb_icmp_le 18 d_X10_feed_13 (by decide) (fun hc => ?_) (fun hc => ?_)
  · have h := gb_it hc h
    refine gb_aload_n d_X10_feed_18 rfl ?_
    refine gb_getr (r := 43) f_X10_45 (hS 0 _ rfl) rfl d_X10_feed_19 ?_
    refine gb_iload_n d_X10_feed_22 rfl ?_
    obtain ⟨r1, e2, h⟩ := gb_bd_e h
    refine gb_cVv (As := [.int x1]) (rest := []) m_X10_175 (t_X9_append (Γ := Γ) hS e2) (hS 43 _ rfl) rfl (Nat.le_of_ble_eq_true rfl) rfl rfl (Nat.le_of_ble_eq_true rfl) d_X10_feed_23 ?_
    refine gb_aload_n d_X10_feed_26 rfl ?_
    refine gb_getr (r := 43) f_X10_45 (hS 0 _ rfl) rfl d_X10_feed_27 ?_
    refine gb_iload_n d_X10_feed_30 rfl ?_
    obtain ⟨r3, e4, h⟩ := gb_bd_e h
    refine gb_cVv (As := [.int x2]) (rest := []) m_X10_175 (t_X9_append (Γ := Γ) hS e4) (hS 43 _ rfl) rfl (Nat.le_of_ble_eq_true rfl) rfl rfl (Nat.le_of_ble_eq_true rfl) d_X10_feed_31 ?_
    refine gb_aload_n d_X10_feed_34 rfl ?_
    refine gb_getr (r := 43) f_X10_45 (hS 0 _ rfl) rfl d_X10_feed_35 ?_
    refine gb_iload_n d_X10_feed_38 rfl ?_
    obtain ⟨r5, e6, h⟩ := gb_bd_e h
    refine gb_cVv (As := [.int x3]) (rest := []) m_X10_175 (t_X9_append (Γ := Γ) hS e6) (hS 43 _ rfl) rfl (Nat.le_of_ble_eq_true rfl) rfl rfl (Nat.le_of_ble_eq_true rfl) d_X10_feed_39 ?_
    refine gb_aload_n d_X10_feed_42 rfl ?_
    refine gb_getr (r := 43) f_X10_45 (hS 0 _ rfl) rfl d_X10_feed_43 ?_
    refine gb_iload d_X10_feed_46 rfl ?_
    obtain ⟨r7, e8, h⟩ := gb_bd_e h
    refine gb_cVv (As := [.int x4]) (rest := []) m_X10_175 (t_X9_append (Γ := Γ) hS e8) (hS 43 _ rfl) rfl (Nat.le_of_ble_eq_true rfl) rfl rfl (Nat.le_of_ble_eq_true rfl) d_X10_feed_48 ?_
    refine gb_aload_n d_X10_feed_51 rfl ?_
    refine gb_getr (r := 43) f_X10_45 (hS 0 _ rfl) rfl d_X10_feed_52 ?_
    refine gb_iload d_X10_feed_55 rfl ?_
    obtain ⟨r9, e10, h⟩ := gb_bd_e h
    refine gb_cVv (As := [.int x5]) (rest := []) m_X10_175 (t_X9_append (Γ := Γ) hS e10) (hS 43 _ rfl) rfl (Nat.le_of_ble_eq_true rfl) rfl rfl (Nat.le_of_ble_eq_true rfl) d_X10_feed_57 ?_
    refine gb_aload_n d_X10_feed_60 rfl ?_
    refine gb_getr (r := 43) f_X10_45 (hS 0 _ rfl) rfl d_X10_feed_61 ?_
    refine gb_geti f_X10_172 (hS 43 _ rfl) rfl d_X10_feed_64 ?_
    cases h
    exact gb_iret d_X10_feed_67 rfl ⟨rfl, rfl, rfl⟩
  · have h := gb_if hc h
    refine gb_iconst (-1) d_X10_feed_16 rfl ?_
    cases h
    exact gb_iret d_X10_feed_17 rfl ⟨rfl, rfl, rfl⟩
-- X10_end
noncomputable def f_X10_end (sh : List gb_Sh) (g : gb_G) (x1 : Int32) : Option (gb_G × Int32) := gb_bd (f_X10_within sh g x1 0 (g.1 43 1)) (fun r1 => if r1.2 = 0 then (some (r1.1, (-1))) else (gb_let (gb_pi r1.1 43 1 x1) (fun g3 => some (g3, x1))))
set_option maxRecDepth 100000 in
set_option maxHeartbeats 4000000 in
theorem t_X10_end {Γ : gb_X} {sh : List gb_Sh} {x1 : Int32} {out : gb_G × Int32} (hS : gb_S sh) {g : gb_G} (h : f_X10_end sh g x1 = some out) : gb_C Γ M_X10_end 1 0 0 sh g [.ref 0, .int x1] (gb_Ri sh out) := by
  refine gb_C.of rfl (Nat.le_of_ble_eq_true rfl) ?_
  refine gb_pick (lv' := [(0, .ref 0), (1, .int x1)]) [0, 1] rfl ?_
  unfold f_X10_end at h
  refine gb_iload_n d_X10_end_0 rfl ?_
  refine gb_iconst 0 d_X10_end_1 rfl ?_
  refine gb_aload_n d_X10_end_2 rfl ?_
  refine gb_getr (r := 43) f_X10_45 (hS 0 _ rfl) rfl d_X10_end_3 ?_
  refine gb_geti f_X10_172 (hS 43 _ rfl) rfl d_X10_end_6 ?_
  obtain ⟨r1, e2, h⟩ := gb_bd_e h
  refine gb_cSi (As := [.int x1, .int 0, .int (g.1 43 1)]) (rest := []) m_X10_115 (t_X10_within (Γ := Γ) hS e2) (Nat.le_of_ble_eq_true rfl) rfl rfl (Nat.le_of_ble_eq_true rfl) d_X10_end_9 ?_
  refine gb_if_ne 17 d_X10_end_12 (by decide) (fun hc => ?_) (fun hc => ?_)
  · have h := gb_if hc h
    refine gb_aload_n d_X10_end_17 rfl ?_
    refine gb_getr (r := 43) f_X10_45 (hS 0 _ rfl) rfl d_X10_end_18 ?_
    refine gb_iload_n d_X10_end_21 rfl ?_
    refine gb_puti f_X10_172 (fun h => nomatch h) (hS 43 _ rfl) rfl rfl rfl d_X10_end_22 ?_
    have h := gb_let_e h
    generalize gb_pi r1.1 43 1 x1 = g3 at h ⊢
    refine gb_iload_n d_X10_end_25 rfl ?_
    cases h
    exact gb_iret d_X10_end_26 rfl ⟨rfl, rfl, rfl⟩
  · have h := gb_it hc h
    refine gb_iconst (-1) d_X10_end_15 rfl ?_
    cases h
    exact gb_iret d_X10_end_16 rfl ⟨rfl, rfl, rfl⟩
-- X10_addFromTape
noncomputable def f_X10_addFromTape (sh : List gb_Sh) (g : gb_G) (x1 : Int32) : Option (gb_G × Int32) := if (g.1 43 1) < (x1 + 4) then (some (g, 0)) else (if (g.1 1 0) < 8 then (gb_bd (f_X9_byteAt sh g x1) (fun r1 => gb_bd (f_X9_byteAt sh r1.1 (x1 + 1)) (fun r3 => gb_bd (f_X9_byteAt sh r3.1 (x1 + 2)) (fun r5 => gb_bd (f_X9_byteAt sh r5.1 (x1 + 3)) (fun r7 => gb_bd (f_X10_canBeGood sh r7.1 r1.2 r3.2 r5.2 r7.2) (fun r9 => if r9.2 = 0 then (some (r9.1, 0)) else (gb_bd (f_X0_add sh r9.1 1 r1.2 r3.2 r5.2 r7.2 0) (fun r11 => some (r11.1, 1))))))))) else (some (g, 0)))
set_option maxRecDepth 100000 in
set_option maxHeartbeats 4000000 in
theorem t_X10_addFromTape {Γ : gb_X} {sh : List gb_Sh} {x1 : Int32} {out : gb_G × Int32} (hS : gb_S sh) {g : gb_G} (h : f_X10_addFromTape sh g x1 = some out) : gb_C Γ M_X10_addFromTape 4 0 0 sh g [.ref 0, .int x1] (gb_Ri sh out) := by
  refine gb_C.of rfl (Nat.le_of_ble_eq_true rfl) ?_
  refine gb_pick (lv' := [(0, .ref 0), (1, .int x1)]) [0, 1] rfl ?_
  unfold f_X10_addFromTape at h
  refine gb_iload_n d_X10_addFromTape_0 rfl ?_
  refine gb_iconst 4 d_X10_addFromTape_1 rfl ?_
  refine gb_iadd d_X10_addFromTape_2 ?_
  refine gb_aload_n d_X10_addFromTape_3 rfl ?_
  refine gb_getr (r := 43) f_X10_45 (hS 0 _ rfl) rfl d_X10_addFromTape_4 ?_
  refine gb_geti f_X10_172 (hS 43 _ rfl) rfl d_X10_addFromTape_7 ?_
  refine gb_icmp_gt 25 d_X10_addFromTape_10 (by decide) (fun hc => ?_) (fun hc => ?_)
  · have h := gb_it hc h
    refine gb_iconst 0 d_X10_addFromTape_25 rfl ?_
    cases h
    exact gb_zret d_X10_addFromTape_26 rfl rfl ⟨rfl, rfl, rfl⟩
  · have h := gb_if hc h
    refine gb_aload_n d_X10_addFromTape_13 rfl ?_
    refine gb_getr (r := 1) f_X10_14 (hS 0 _ rfl) rfl d_X10_addFromTape_14 ?_
    refine gb_geti f_X10_123 (ok_X0_1 hS).1 rfl d_X10_addFromTape_17 ?_
    refine gb_bipush 8 d_X10_addFromTape_20 rfl ?_
    refine gb_icmp_lt 27 d_X10_addFromTape_22 (by decide) (fun hc => ?_) (fun hc => ?_)
    · have h := gb_it hc h
      refine gb_aload_n d_X10_addFromTape_27 rfl ?_
      refine gb_getr (r := 43) f_X10_45 (hS 0 _ rfl) rfl d_X10_addFromTape_28 ?_
      refine gb_iload_n d_X10_addFromTape_31 rfl ?_
      obtain ⟨r1, e2, h⟩ := gb_bd_e h
      refine gb_cVi (As := [.int x1]) (rest := []) m_X10_182 (t_X9_byteAt (Γ := Γ) hS e2) (hS 43 _ rfl) rfl (Nat.le_of_ble_eq_true rfl) rfl rfl (Nat.le_of_ble_eq_true rfl) d_X10_addFromTape_32 ?_
      refine gb_istore_n [(2, .int r1.2), (0, .ref 0), (1, .int x1)] d_X10_addFromTape_35 (Nat.le_of_ble_eq_true rfl) rfl ?_
      refine gb_aload_n d_X10_addFromTape_36 rfl ?_
      refine gb_getr (r := 43) f_X10_45 (hS 0 _ rfl) rfl d_X10_addFromTape_37 ?_
      refine gb_iload_n d_X10_addFromTape_40 rfl ?_
      refine gb_iconst 1 d_X10_addFromTape_41 rfl ?_
      refine gb_iadd d_X10_addFromTape_42 ?_
      obtain ⟨r3, e4, h⟩ := gb_bd_e h
      refine gb_cVi (As := [.int (x1 + 1)]) (rest := []) m_X10_182 (t_X9_byteAt (Γ := Γ) hS e4) (hS 43 _ rfl) rfl (Nat.le_of_ble_eq_true rfl) rfl rfl (Nat.le_of_ble_eq_true rfl) d_X10_addFromTape_43 ?_
      refine gb_istore_n [(3, .int r3.2), (2, .int r1.2), (0, .ref 0), (1, .int x1)] d_X10_addFromTape_46 (Nat.le_of_ble_eq_true rfl) rfl ?_
      refine gb_aload_n d_X10_addFromTape_47 rfl ?_
      refine gb_getr (r := 43) f_X10_45 (hS 0 _ rfl) rfl d_X10_addFromTape_48 ?_
      refine gb_iload_n d_X10_addFromTape_51 rfl ?_
      refine gb_iconst 2 d_X10_addFromTape_52 rfl ?_
      refine gb_iadd d_X10_addFromTape_53 ?_
      obtain ⟨r5, e6, h⟩ := gb_bd_e h
      refine gb_cVi (As := [.int (x1 + 2)]) (rest := []) m_X10_182 (t_X9_byteAt (Γ := Γ) hS e6) (hS 43 _ rfl) rfl (Nat.le_of_ble_eq_true rfl) rfl rfl (Nat.le_of_ble_eq_true rfl) d_X10_addFromTape_54 ?_
      refine gb_istore [(4, .int r5.2), (3, .int r3.2), (2, .int r1.2), (0, .ref 0), (1, .int x1)] d_X10_addFromTape_57 (Nat.le_of_ble_eq_true rfl) rfl ?_
      refine gb_aload_n d_X10_addFromTape_59 rfl ?_
      refine gb_getr (r := 43) f_X10_45 (hS 0 _ rfl) rfl d_X10_addFromTape_60 ?_
      refine gb_iload_n d_X10_addFromTape_63 rfl ?_
      refine gb_iconst 3 d_X10_addFromTape_64 rfl ?_
      refine gb_iadd d_X10_addFromTape_65 ?_
      obtain ⟨r7, e8, h⟩ := gb_bd_e h
      refine gb_cVi (As := [.int (x1 + 3)]) (rest := []) m_X10_182 (t_X9_byteAt (Γ := Γ) hS e8) (hS 43 _ rfl) rfl (Nat.le_of_ble_eq_true rfl) rfl rfl (Nat.le_of_ble_eq_true rfl) d_X10_addFromTape_66 ?_
      refine gb_istore [(5, .int r7.2), (4, .int r5.2), (3, .int r3.2), (2, .int r1.2), (0, .ref 0), (1, .int x1)] d_X10_addFromTape_69 (Nat.le_of_ble_eq_true rfl) rfl ?_
      refine gb_iload_n d_X10_addFromTape_71 rfl ?_
      refine gb_iload_n d_X10_addFromTape_72 rfl ?_
      refine gb_iload d_X10_addFromTape_73 rfl ?_
      refine gb_iload d_X10_addFromTape_75 rfl ?_
      obtain ⟨r9, e10, h⟩ := gb_bd_e h
      refine gb_cSi (As := [.int r1.2, .int r3.2, .int r5.2, .int r7.2]) (rest := []) m_X10_111 (t_X10_canBeGood (Γ := Γ) hS e10) (Nat.le_of_ble_eq_true rfl) rfl rfl (Nat.le_of_ble_eq_true rfl) d_X10_addFromTape_77 ?_
      refine gb_if_ne 85 d_X10_addFromTape_80 (by decide) (fun hc => ?_) (fun hc => ?_)
      · have h := gb_if hc h
        refine gb_aload_n d_X10_addFromTape_85 rfl ?_
        refine gb_getr (r := 1) f_X10_14 (hS 0 _ rfl) rfl d_X10_addFromTape_86 ?_
        refine gb_iload_n d_X10_addFromTape_89 rfl ?_
        refine gb_iload_n d_X10_addFromTape_90 rfl ?_
        refine gb_iload d_X10_addFromTape_91 rfl ?_
        refine gb_iload d_X10_addFromTape_93 rfl ?_
        refine gb_iconst 0 d_X10_addFromTape_95 rfl ?_
        obtain ⟨r11, e12, h⟩ := gb_bd_e h
        refine gb_cVi (As := [.int r1.2, .int r3.2, .int r5.2, .int r7.2, .int 0]) (rest := []) m_X10_129 (t_X0_add (Γ := Γ) hS (ok_X0_1 hS) e12) (ok_X0_1 hS).1 rfl (Nat.le_of_ble_eq_true rfl) rfl rfl (Nat.le_of_ble_eq_true rfl) d_X10_addFromTape_96 ?_
        refine gb_pop d_X10_addFromTape_99 rfl ?_
        refine gb_iconst 1 d_X10_addFromTape_100 rfl ?_
        cases h
        exact gb_zret d_X10_addFromTape_101 rfl rfl ⟨rfl, rfl, rfl⟩
      · have h := gb_it hc h
        refine gb_iconst 0 d_X10_addFromTape_83 rfl ?_
        cases h
        exact gb_zret d_X10_addFromTape_84 rfl rfl ⟨rfl, rfl, rfl⟩
    · have h := gb_if hc h
      refine gb_iconst 0 d_X10_addFromTape_25 rfl ?_
      cases h
      exact gb_zret d_X10_addFromTape_26 rfl rfl ⟨rfl, rfl, rfl⟩
-- X10_row
noncomputable def f_X10_row_61 (sh : List gb_Sh) (K26 : gb_G → Int32 → Int32 → Option (gb_G × Int32)) (g : gb_G) (y1 : Int32) (y2 : Int32) : Option (gb_G × Int32) := K26 g y1 (y2 + 4)
noncomputable def f_X10_row_26 (sh : List gb_Sh) : Nat → gb_G → Int32 → Int32 → Option (gb_G × Int32)
  | 0, _, _, _ => none
  | n + 1, g, y1, y2 => if (g.1 43 1) ≤ y2 then (gb_let (gb_pi g 43 1 0) (fun g2 => gb_bd (f_X3_clear sh g2 33) (fun r3 => gb_bd (f_X10_grant sh r3 y1) (fun r5 => some (r5.1, r5.2))))) else (gb_bd (f_X10_addFromTape sh g y2) (fun r7 => if r7.2 = 0 then (gb_let (gb_pi r7.1 0 16 ((r7.1.1 0 16) + 1)) (fun g9 => f_X10_row_61 sh (fun w w0 w1 => f_X10_row_26 sh n w w0 w1) g9 y1 y2)) else (f_X10_row_61 sh (fun w w0 w1 => f_X10_row_26 sh n w w0 w1) r7.1 (y1 + 1) y2)))
noncomputable def f_X10_row (sh : List gb_Sh) (g : gb_G) : Option (gb_G × Int32) := if (g.1 43 1) = 0 then (gb_bd (f_X10_refuse sh g (-6)) (fun r10 => some (r10.1, r10.2))) else (gb_let (gb_pi g 0 16 0) (fun g1 => f_X10_row_26 sh gb_N g1 0 0))
set_option maxRecDepth 100000 in
set_option maxHeartbeats 4000000 in
theorem t_X10_row_61 {Γ : gb_X} {sh : List gb_Sh} {out : gb_G × Int32} (hS : gb_S sh) {K26 : gb_G → Int32 → Int32 → Option (gb_G × Int32)} (hK26 : ∀ (g : gb_G) (y1 : Int32) (y2 : Int32), K26 g y1 y2 = some out → gb_J Γ M_X10_row 5 (gb_Ri sh out) 0 0 sh g 26 [(0, .ref 0), (1, .int y1), (2, .int y2)] []) : ∀ (g : gb_G) (y1 : Int32) (y2 : Int32), f_X10_row_61 sh K26 g y1 y2 = some out → gb_J Γ M_X10_row 5 (gb_Ri sh out) 0 0 sh g 61 [(0, .ref 0), (1, .int y1), (2, .int y2)] [] := by
  intro g y1 y2 h
  unfold f_X10_row_61 at h
  refine gb_iinc (y2 + 4) [(2, .int (y2 + 4)), (0, .ref 0), (1, .int y1)] d_X10_row_61 (Nat.le_of_ble_eq_true rfl) rfl rfl rfl ?_
  refine gb_goto 26 d_X10_row_64 (by decide) ?_
  refine gb_pick (lv' := [(0, .ref 0), (1, .int y1), (2, .int (y2 + 4))]) [1, 2, 0] rfl ?_
  exact hK26 _ y1 (y2 + 4) h
set_option maxRecDepth 100000 in
set_option maxHeartbeats 4000000 in
theorem t_X10_row_26 {Γ : gb_X} {sh : List gb_Sh} {out : gb_G × Int32} (hS : gb_S sh) : ∀ (n : Nat) (g : gb_G) (y1 : Int32) (y2 : Int32), f_X10_row_26 sh n g y1 y2 = some out → gb_J Γ M_X10_row 5 (gb_Ri sh out) 0 0 sh g 26 [(0, .ref 0), (1, .int y1), (2, .int y2)] [] := by
  intro n
  induction n with
  | zero => intro g y1 y2 h; cases h
  | succ n ih =>
    intro g y1 y2 h
    rw [f_X10_row_26] at h
    refine gb_iload_n d_X10_row_26 rfl ?_
    refine gb_aload_n d_X10_row_27 rfl ?_
    refine gb_getr (r := 43) f_X10_45 (hS 0 _ rfl) rfl d_X10_row_28 ?_
    refine gb_geti f_X10_172 (hS 43 _ rfl) rfl d_X10_row_31 ?_
    refine gb_icmp_ge 67 d_X10_row_34 (by decide) (fun hc => ?_) (fun hc => ?_)
    · have h := gb_it hc h
      refine gb_aload_n d_X10_row_67 rfl ?_
      refine gb_getr (r := 43) f_X10_45 (hS 0 _ rfl) rfl d_X10_row_68 ?_
      refine gb_iconst 0 d_X10_row_71 rfl ?_
      refine gb_puti f_X10_172 (fun h => nomatch h) (hS 43 _ rfl) rfl rfl rfl d_X10_row_72 ?_
      have h := gb_let_e h
      generalize gb_pi g 43 1 0 = g2 at h ⊢
      refine gb_aload_n d_X10_row_75 rfl ?_
      refine gb_getr (r := 33) f_X10_35 (hS 0 _ rfl) rfl d_X10_row_76 ?_
      obtain ⟨r3, e4, h⟩ := gb_bd_e h
      refine gb_cVv (As := []) (rest := []) m_X10_126 (t_X3_clear (Γ := Γ) hS (ok_X3_33 hS) e4) (ok_X3_33 hS).1 rfl (Nat.le_of_ble_eq_true rfl) rfl rfl (Nat.le_of_ble_eq_true rfl) d_X10_row_79 ?_
      refine gb_aload_n d_X10_row_82 rfl ?_
      refine gb_iload_n d_X10_row_83 rfl ?_
      obtain ⟨r5, e6, h⟩ := gb_bd_e h
      refine gb_cVi (As := [.int y1]) (rest := []) m_X10_133 (t_X10_grant (Γ := Γ) hS e6) (hS 0 _ rfl) rfl (Nat.le_of_ble_eq_true rfl) rfl rfl (Nat.le_of_ble_eq_true rfl) d_X10_row_84 ?_
      cases h
      exact gb_iret d_X10_row_87 rfl ⟨rfl, rfl, rfl⟩
    · have h := gb_if hc h
      refine gb_aload_n d_X10_row_37 rfl ?_
      refine gb_iload_n d_X10_row_38 rfl ?_
      obtain ⟨r7, e8, h⟩ := gb_bd_e h
      refine gb_cVi (As := [.int y2]) (rest := []) m_X10_179 (t_X10_addFromTape (Γ := Γ) hS e8) (hS 0 _ rfl) rfl (Nat.le_of_ble_eq_true rfl) rfl rfl (Nat.le_of_ble_eq_true rfl) d_X10_row_39 ?_
      refine gb_if_eq 51 d_X10_row_42 (by decide) (fun hc => ?_) (fun hc => ?_)
      · have h := gb_it hc h
        refine gb_aload_n d_X10_row_51 rfl ?_
        refine gb_dup d_X10_row_52 rfl ?_
        refine gb_geti f_X10_102 (hS 0 _ rfl) rfl d_X10_row_53 ?_
        refine gb_iconst 1 d_X10_row_56 rfl ?_
        refine gb_iadd d_X10_row_57 ?_
        refine gb_puti f_X10_102 (fun h => nomatch h) (hS 0 _ rfl) rfl rfl rfl d_X10_row_58 ?_
        have h := gb_let_e h
        generalize gb_pi r7.1 0 16 ((r7.1.1 0 16) + 1) = g9 at h ⊢
        exact t_X10_row_61 hS (fun w w0 w1 hw => ih w w0 w1 hw) _ y1 y2 h
      · have h := gb_if hc h
        refine gb_iinc (y1 + 1) [(1, .int (y1 + 1)), (0, .ref 0), (2, .int y2)] d_X10_row_45 (Nat.le_of_ble_eq_true rfl) rfl rfl rfl ?_
        refine gb_goto 61 d_X10_row_48 (by decide) ?_
        refine gb_pick (lv' := [(0, .ref 0), (1, .int (y1 + 1)), (2, .int y2)]) [1, 0, 2] rfl ?_
        exact t_X10_row_61 hS (fun w w0 w1 hw => ih w w0 w1 hw) _ (y1 + 1) y2 h
set_option maxRecDepth 100000 in
set_option maxHeartbeats 4000000 in
theorem t_X10_row {Γ : gb_X} {sh : List gb_Sh} {out : gb_G × Int32} (hS : gb_S sh) {g : gb_G} (h : f_X10_row sh g = some out) : gb_C Γ M_X10_row 5 0 0 sh g [.ref 0] (gb_Ri sh out) := by
  refine gb_C.of rfl (Nat.le_of_ble_eq_true rfl) ?_
  refine gb_pick (lv' := [(0, .ref 0)]) [0] rfl ?_
  unfold f_X10_row at h
  refine gb_aload_n d_X10_row_0 rfl ?_
  refine gb_getr (r := 43) f_X10_45 (hS 0 _ rfl) rfl d_X10_row_1 ?_
  refine gb_geti f_X10_172 (hS 43 _ rfl) rfl d_X10_row_4 ?_
  refine gb_if_ne 17 d_X10_row_7 (by decide) (fun hc => ?_) (fun hc => ?_)
  · have h := gb_if hc h
    refine gb_iconst 0 d_X10_row_17 rfl ?_
    refine gb_istore_n [(1, .int 0), (0, .ref 0)] d_X10_row_18 (Nat.le_of_ble_eq_true rfl) rfl ?_
    refine gb_aload_n d_X10_row_19 rfl ?_
    refine gb_iconst 0 d_X10_row_20 rfl ?_
    refine gb_puti f_X10_102 (fun h => nomatch h) (hS 0 _ rfl) rfl rfl rfl d_X10_row_21 ?_
    have h := gb_let_e h
    generalize gb_pi g 0 16 0 = g1 at h ⊢
    refine gb_iconst 0 d_X10_row_24 rfl ?_
    refine gb_istore_n [(2, .int 0), (1, .int 0), (0, .ref 0)] d_X10_row_25 (Nat.le_of_ble_eq_true rfl) rfl ?_
    refine gb_pick (lv' := [(0, .ref 0), (1, .int 0), (2, .int 0)]) [2, 1, 0] rfl ?_
    exact t_X10_row_26 hS  gb_N _ 0 0 h
  · have h := gb_it hc h
    refine gb_aload_n d_X10_row_10 rfl ?_
    refine gb_bipush (-6) d_X10_row_11 rfl ?_
    obtain ⟨r10, e11, h⟩ := gb_bd_e h
    refine gb_cVi (As := [.int (-6)]) (rest := []) m_X10_119 (t_X10_refuse (Γ := Γ) hS e11) (hS 0 _ rfl) rfl (Nat.le_of_ble_eq_true rfl) rfl rfl (Nat.le_of_ble_eq_true rfl) d_X10_row_13 ?_
    cases h
    exact gb_iret d_X10_row_16 rfl ⟨rfl, rfl, rfl⟩
-- X10_commas
noncomputable def f_X10_commas (sh : List gb_Sh) (g : gb_G) : Option (gb_G × Int32) := some (g, (g.1 0 16))
set_option maxRecDepth 100000 in
set_option maxHeartbeats 4000000 in
theorem t_X10_commas {Γ : gb_X} {sh : List gb_Sh} {out : gb_G × Int32} (hS : gb_S sh) {g : gb_G} (h : f_X10_commas sh g = some out) : gb_C Γ M_X10_commas 0 0 0 sh g [.ref 0] (gb_Ri sh out) := by
  refine gb_C.of rfl (Nat.le_of_ble_eq_true rfl) ?_
  refine gb_pick (lv' := [(0, .ref 0)]) [0] rfl ?_
  unfold f_X10_commas at h
  refine gb_aload_n d_X10_commas_0 rfl ?_
  refine gb_geti f_X10_102 (hS 0 _ rfl) rfl d_X10_commas_1 ?_
  cases h
  exact gb_iret d_X10_commas_4 rfl ⟨rfl, rfl, rfl⟩
