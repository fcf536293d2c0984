-- X8_readPart
noncomputable def f_X8_readPart (sh : List gb_Sh) (R_X8_readSum : gb_G → Int32 → Option (gb_G × Int32)) (g : gb_G) (x1 : Int32) : Option (gb_G × Int32) := gb_bd (f_X9_isSign sh g 91) (fun r1 => if r1.2 = 0 then (if (r1.1.1 45 3) < 50 then (gb_let (gb_pi r1.1 45 3 ((r1.1.1 45 3) + 1)) (fun g3 => gb_bd (f_X9_isNumber sh g3) (fun r4 => if r4.2 = 0 then (gb_bd (f_X8_readWord sh r4.1) (fun r6 => gb_bo r6.2 (some (r6.1, r6.2)))) else (gb_bd (f_X8_readNumber sh r4.1) (fun r9 => gb_bo r9.2 (some (r9.1, r9.2))))))) else (some (r1.1, 0))) else (if 8 ≤ x1 then (some (r1.1, 0)) else (gb_bd (f_X8_readSign sh r1.1 91) (fun r12 => if r12.2 = 0 then (some (r12.1, 0)) else (gb_bd (R_X8_readSum r12.1 (x1 + 1)) (fun r14 => if r14.2 = 0 then (some (r14.1, 0)) else (gb_bd (f_X8_readSign sh r14.1 93) (fun r16 => if r16.2 = 0 then (some (r16.1, 0)) else (some (r16.1, 1))))))))))
set_option maxRecDepth 100000 in
set_option maxHeartbeats 4000000 in
theorem t_X8_readPart {Γ : gb_X} {dR : Nat} {sh : List gb_Sh} {x1 : Int32} {out : gb_G × Int32} {R_X8_readSum : gb_G → Int32 → Option (gb_G × Int32)} (hS : gb_S sh) (hR_X8_readSum : ∀ (g : gb_G) (x : Int32) {o : gb_G × Int32}, R_X8_readSum g x = some o → gb_C Γ M_X8_readSum dR 0 0 sh g [.ref 45, .int x] (gb_Ri sh o)) {g : gb_G} (h : f_X8_readPart sh R_X8_readSum g x1 = some out) : gb_C Γ M_X8_readPart (dR + 8) 0 0 sh g [.ref 45, .int x1] (gb_Ri sh out) := by
  refine gb_C.of rfl (Nat.le_of_ble_eq_true rfl) ?_
  refine gb_pick (lv' := [(0, .ref 45), (1, .int x1)]) [0, 1] rfl ?_
  unfold f_X8_readPart at h
  refine gb_aload_n d_X8_readPart_0 rfl ?_
  refine gb_getr (r := 43) f_X8_26 (hS 45 _ rfl) rfl d_X8_readPart_1 ?_
  refine gb_bipush 91 d_X8_readPart_4 rfl ?_
  obtain ⟨r1, e2, h⟩ := gb_bd_e h
  refine gb_cVi (As := [.int 91]) (rest := []) m_X8_95 (t_X9_isSign (Γ := Γ) hS e2) (hS 43 _ rfl) rfl (by omega) rfl rfl (Nat.le_of_ble_eq_true rfl) d_X8_readPart_6 ?_
  refine gb_if_eq 52 d_X8_readPart_9 (by decide) (fun hc => ?_) (fun hc => ?_)
  · have h := gb_it hc h
    refine gb_aload_n d_X8_readPart_52 rfl ?_
    refine gb_geti f_X8_22 (hS 45 _ rfl) rfl d_X8_readPart_53 ?_
    refine gb_bipush 50 d_X8_readPart_56 rfl ?_
    refine gb_icmp_lt 63 d_X8_readPart_58 (by decide) (fun hc => ?_) (fun hc => ?_)
    · have h := gb_it hc h
      refine gb_aload_n d_X8_readPart_63 rfl ?_
      refine gb_dup d_X8_readPart_64 rfl ?_
      refine gb_geti f_X8_22 (hS 45 _ rfl) rfl d_X8_readPart_65 ?_
      refine gb_iconst 1 d_X8_readPart_68 rfl ?_
      refine gb_iadd d_X8_readPart_69 ?_
      refine gb_puti f_X8_22 (fun h => nomatch h) (hS 45 _ rfl) rfl rfl rfl d_X8_readPart_70 ?_
      have h := gb_let_e h
      generalize gb_pi r1.1 45 3 ((r1.1.1 45 3) + 1) = g3 at h ⊢
      refine gb_aload_n d_X8_readPart_73 rfl ?_
      refine gb_getr (r := 43) f_X8_26 (hS 45 _ rfl) rfl d_X8_readPart_74 ?_
      obtain ⟨r4, e5, h⟩ := gb_bd_e h
      refine gb_cVi (As := []) (rest := []) m_X8_143 (t_X9_isNumber (Γ := Γ) hS e5) (hS 43 _ rfl) rfl (by omega) rfl rfl (Nat.le_of_ble_eq_true rfl) d_X8_readPart_77 ?_
      refine gb_if_eq 90 d_X8_readPart_80 (by decide) (fun hc => ?_) (fun hc => ?_)
      · have h := gb_it hc h
        refine gb_aload_n d_X8_readPart_90 rfl ?_
        obtain ⟨r6, e7, h⟩ := gb_bd_e h
        refine gb_cVi (As := []) (rest := []) m_X8_149 (t_X8_readWord (Γ := Γ) hS e7) (hS 45 _ rfl) rfl (by omega) rfl rfl (Nat.le_of_ble_eq_true rfl) d_X8_readPart_91 ?_
        obtain ⟨hb8, h⟩ := gb_bo_e h
        cases h
        exact gb_zret d_X8_readPart_94 rfl hb8 ⟨rfl, rfl, rfl⟩
      · have h := gb_if hc h
        refine gb_aload_n d_X8_readPart_83 rfl ?_
        obtain ⟨r9, e10, h⟩ := gb_bd_e h
        refine gb_cVi (As := []) (rest := []) m_X8_146 (t_X8_readNumber (Γ := Γ) hS e10) (hS 45 _ rfl) rfl (by omega) rfl rfl (Nat.le_of_ble_eq_true rfl) d_X8_readPart_84 ?_
        refine gb_goto 94 d_X8_readPart_87 (by decide) ?_
        obtain ⟨hb11, h⟩ := gb_bo_e h
        cases h
        exact gb_zret d_X8_readPart_94 rfl hb11 ⟨rfl, rfl, rfl⟩
    · have h := gb_if hc h
      refine gb_iconst 0 d_X8_readPart_61 rfl ?_
      cases h
      exact gb_zret d_X8_readPart_62 rfl rfl ⟨rfl, rfl, rfl⟩
  · have h := gb_if hc h
    refine gb_iload_n d_X8_readPart_12 rfl ?_
    refine gb_bipush 8 d_X8_readPart_13 rfl ?_
    refine gb_icmp_ge 50 d_X8_readPart_15 (by decide) (fun hc => ?_) (fun hc => ?_)
    · have h := gb_it hc h
      refine gb_iconst 0 d_X8_readPart_50 rfl ?_
      cases h
      exact gb_zret d_X8_readPart_51 rfl rfl ⟨rfl, rfl, rfl⟩
    · have h := gb_if hc h
      refine gb_aload_n d_X8_readPart_18 rfl ?_
      refine gb_bipush 91 d_X8_readPart_19 rfl ?_
      obtain ⟨r12, e13, h⟩ := gb_bd_e h
      refine gb_cVi (As := [.int 91]) (rest := []) m_X8_42 (t_X8_readSign (Γ := Γ) hS e13) (hS 45 _ rfl) rfl (by omega) rfl rfl (Nat.le_of_ble_eq_true rfl) d_X8_readPart_21 ?_
      refine gb_if_eq 50 d_X8_readPart_24 (by decide) (fun hc => ?_) (fun hc => ?_)
      · have h := gb_it hc h
        refine gb_iconst 0 d_X8_readPart_50 rfl ?_
        cases h
        exact gb_zret d_X8_readPart_51 rfl rfl ⟨rfl, rfl, rfl⟩
      · have h := gb_if hc h
        refine gb_aload_n d_X8_readPart_27 rfl ?_
        refine gb_iload_n d_X8_readPart_28 rfl ?_
        refine gb_iconst 1 d_X8_readPart_29 rfl ?_
        refine gb_iadd d_X8_readPart_30 ?_
        obtain ⟨r14, e15, h⟩ := gb_bd_e h
        refine gb_cVi (As := [.int (x1 + 1)]) (rest := []) m_X8_70 (hR_X8_readSum _ (x1 + 1) e15) (hS 45 _ rfl) rfl (by omega) rfl rfl (Nat.le_of_ble_eq_true rfl) d_X8_readPart_31 ?_
        refine gb_if_eq 50 d_X8_readPart_34 (by decide) (fun hc => ?_) (fun hc => ?_)
        · have h := gb_it hc h
          refine gb_iconst 0 d_X8_readPart_50 rfl ?_
          cases h
          exact gb_zret d_X8_readPart_51 rfl rfl ⟨rfl, rfl, rfl⟩
        · have h := gb_if hc h
          refine gb_aload_n d_X8_readPart_37 rfl ?_
          refine gb_bipush 93 d_X8_readPart_38 rfl ?_
          obtain ⟨r16, e17, h⟩ := gb_bd_e h
          refine gb_cVi (As := [.int 93]) (rest := []) m_X8_42 (t_X8_readSign (Γ := Γ) hS e17) (hS 45 _ rfl) rfl (by omega) rfl rfl (Nat.le_of_ble_eq_true rfl) d_X8_readPart_40 ?_
          refine gb_if_eq 50 d_X8_readPart_43 (by decide) (fun hc => ?_) (fun hc => ?_)
          · have h := gb_it hc h
            refine gb_iconst 0 d_X8_readPart_50 rfl ?_
            cases h
            exact gb_zret d_X8_readPart_51 rfl rfl ⟨rfl, rfl, rfl⟩
          · have h := gb_if hc h
            refine gb_iconst 1 d_X8_readPart_46 rfl ?_
            refine gb_goto 51 d_X8_readPart_47 (by decide) ?_
            cases h
            exact gb_zret d_X8_readPart_51 rfl rfl ⟨rfl, rfl, rfl⟩
-- J1_canEncode_9a6ad
noncomputable def f_J1_canEncode_9a6ad (sh : List gb_Sh) (g : gb_G) (x1 : Int32) : Option (gb_G × Int32) := if x1 < 0 then (some (g, 0)) else (if 255 < x1 then (some (g, 0)) else (some (g, 1)))
set_option maxRecDepth 100000 in
set_option maxHeartbeats 4000000 in
theorem t_J1_canEncode_9a6ad {Γ : gb_X} {sh : List gb_Sh} {x1 : Int32} {out : gb_G × Int32} (hS : gb_S sh) {g : gb_G} (h : f_J1_canEncode_9a6ad sh g x1 = some out) : gb_C Γ M_J1_canEncode_9a6ad 0 0 0 sh g [.int x1] (gb_Ri sh out) := by
  refine gb_C.ofF (by decide +kernel) (Nat.le_of_ble_eq_true rfl) ?_
  refine gb_pick (lv' := [(0, .int x1)]) [0] rfl ?_
  unfold f_J1_canEncode_9a6ad at h
  refine gb_iload_n d_J1_canEncode_9a6ad_0 rfl ?_
  refine gb_if_lt 15 d_J1_canEncode_9a6ad_1 (by decide) (fun hc => ?_) (fun hc => ?_)
  · have h := gb_it hc h
    refine gb_iconst 0 d_J1_canEncode_9a6ad_15 rfl ?_
    cases h
    exact gb_zret d_J1_canEncode_9a6ad_16 rfl rfl ⟨rfl, rfl, rfl⟩
  · have h := gb_if hc h
    refine gb_iload_n d_J1_canEncode_9a6ad_4 rfl ?_
    refine gb_sipush 255 d_J1_canEncode_9a6ad_5 rfl ?_
    refine gb_icmp_gt 15 d_J1_canEncode_9a6ad_8 (by decide) (fun hc => ?_) (fun hc => ?_)
    · have h := gb_it hc h
      refine gb_iconst 0 d_J1_canEncode_9a6ad_15 rfl ?_
      cases h
      exact gb_zret d_J1_canEncode_9a6ad_16 rfl rfl ⟨rfl, rfl, rfl⟩
    · have h := gb_if hc h
      refine gb_iconst 1 d_J1_canEncode_9a6ad_11 rfl ?_
      refine gb_goto 16 d_J1_canEncode_9a6ad_12 (by decide) ?_
      cases h
      exact gb_zret d_J1_canEncode_9a6ad_16 rfl rfl ⟨rfl, rfl, rfl⟩
-- J1_indexOfChar_4cfef
noncomputable def f_J1_indexOfChar_4cfef_7 (sh : List gb_Sh) (s1 : Nat) : Nat → gb_G → Int32 → Int32 → Int32 → Option (gb_G × Int32)
  | 0, _, _, _, _ => none
  | n + 1, g, y3, y4, y5 => if y3 ≤ y5 then (some (g, (-1))) else (gb_ck y5 (gb_sl.getD s1 0) (if ((gb_sb.getD s1 []).getD y5.toNatClampNeg 0) = y4 then (some (g, y5)) else (f_J1_indexOfChar_4cfef_7 sh s1 n g y3 y4 (y5 + 1))))
noncomputable def f_J1_indexOfChar_4cfef (sh : List gb_Sh) (g : gb_G) (s1 : Nat) (x2 : Int32) (x3 : Int32) (x4 : Int32) : Option (gb_G × Int32) := f_J1_indexOfChar_4cfef_7 sh s1 gb_N g x4 x2.toInt8.toInt32 x3
set_option maxRecDepth 100000 in
set_option maxHeartbeats 4000000 in
theorem t_J1_indexOfChar_4cfef_7 {Γ : gb_X} {sh : List gb_Sh} {s1 : Nat} {out : gb_G × Int32} (hS : gb_S sh) (h_s1 : s1 < 13) : ∀ (n : Nat) (g : gb_G) (y3 : Int32) (y4 : Int32) (y5 : Int32), f_J1_indexOfChar_4cfef_7 sh s1 n g y3 y4 y5 = some out → gb_J Γ M_J1_indexOfChar_4cfef 0 (gb_Ri sh out) 0 0 sh g 7 [(0, .retAddr (20 + s1)), (3, .int y3), (4, .int y4), (5, .int y5)] [] := by
  intro n
  induction n with
  | zero => intro g y3 y4 y5 h; cases h
  | succ n ih =>
    intro g y3 y4 y5 h
    rw [f_J1_indexOfChar_4cfef_7] at h
    refine gb_iload d_J1_indexOfChar_4cfef_7 rfl ?_
    refine gb_iload_n d_J1_indexOfChar_4cfef_9 rfl ?_
    refine gb_icmp_ge 31 d_J1_indexOfChar_4cfef_10 (by decide) (fun hc => ?_) (fun hc => ?_)
    · have h := gb_it hc h
      refine gb_iconst (-1) d_J1_indexOfChar_4cfef_31 rfl ?_
      cases h
      exact gb_iret d_J1_indexOfChar_4cfef_32 rfl ⟨rfl, rfl, rfl⟩
    · have h := gb_if hc h
      refine gb_rload_n d_J1_indexOfChar_4cfef_13 rfl ?_
      refine gb_iload d_J1_indexOfChar_4cfef_14 rfl ?_
      obtain ⟨hi1, h⟩ := gb_ck_e h
      refine gb_rbald (gb_s_bytes h_s1) hi1 d_J1_indexOfChar_4cfef_16 ?_
      refine gb_iload d_J1_indexOfChar_4cfef_17 rfl ?_
      refine gb_icmp_ne 25 d_J1_indexOfChar_4cfef_19 (by decide) (fun hc => ?_) (fun hc => ?_)
      · have h := gb_if hc h
        refine gb_iinc (y5 + 1) [(5, .int (y5 + 1)), (0, .retAddr (20 + s1)), (3, .int y3), (4, .int y4)] d_J1_indexOfChar_4cfef_25 (Nat.le_of_ble_eq_true rfl) rfl rfl rfl ?_
        refine gb_goto 7 d_J1_indexOfChar_4cfef_28 (by decide) ?_
        refine gb_pick (lv' := [(0, .retAddr (20 + s1)), (3, .int y3), (4, .int y4), (5, .int (y5 + 1))]) [1, 2, 3, 0] rfl ?_
        exact ih _ y3 y4 (y5 + 1) h
      · have h := gb_it hc h
        refine gb_iload d_J1_indexOfChar_4cfef_22 rfl ?_
        cases h
        exact gb_iret d_J1_indexOfChar_4cfef_24 rfl ⟨rfl, rfl, rfl⟩
set_option maxRecDepth 100000 in
set_option maxHeartbeats 4000000 in
theorem t_J1_indexOfChar_4cfef {Γ : gb_X} {sh : List gb_Sh} {s1 : Nat} {x2 : Int32} {x3 : Int32} {x4 : Int32} {out : gb_G × Int32} (hS : gb_S sh) (h_s1 : s1 < 13) {g : gb_G} (h : f_J1_indexOfChar_4cfef sh g s1 x2 x3 x4 = some out) : gb_C Γ M_J1_indexOfChar_4cfef 0 0 0 sh g [.retAddr (20 + s1), .int x2, .int x3, .int x4] (gb_Ri sh out) := by
  refine gb_C.ofF (by decide +kernel) (Nat.le_of_ble_eq_true rfl) ?_
  refine gb_pick (lv' := [(0, .retAddr (20 + s1)), (1, .int x2), (2, .int x3), (3, .int x4)]) [0, 1, 2, 3] rfl ?_
  unfold f_J1_indexOfChar_4cfef at h
  refine gb_iload_n d_J1_indexOfChar_4cfef_0 rfl ?_
  refine gb_i2b d_J1_indexOfChar_4cfef_1 ?_
  refine gb_istore [(4, .int x2.toInt8.toInt32), (0, .retAddr (20 + s1)), (1, .int x2), (2, .int x3), (3, .int x4)] d_J1_indexOfChar_4cfef_2 (Nat.le_of_ble_eq_true rfl) rfl ?_
  refine gb_iload_n d_J1_indexOfChar_4cfef_4 rfl ?_
  refine gb_istore [(5, .int x3), (4, .int x2.toInt8.toInt32), (0, .retAddr (20 + s1)), (1, .int x2), (2, .int x3), (3, .int x4)] d_J1_indexOfChar_4cfef_5 (Nat.le_of_ble_eq_true rfl) rfl ?_
  refine gb_pick (lv' := [(0, .retAddr (20 + s1)), (3, .int x4), (4, .int x2.toInt8.toInt32), (5, .int x3)]) [2, 5, 1, 0] rfl ?_
  exact t_J1_indexOfChar_4cfef_7 hS h_s1  gb_N _ x4 x2.toInt8.toInt32 x3 h
-- J1_indexOf_4cfef
noncomputable def f_J1_indexOf_4cfef (sh : List gb_Sh) (g : gb_G) (s1 : Nat) (x2 : Int32) (x3 : Int32) (x4 : Int32) : Option (gb_G × Int32) := gb_bd (f_J1_canEncode_9a6ad sh g x2) (fun r1 => if r1.2 = 0 then (some (r1.1, (-1))) else (gb_bd (f_J9_max_7cf53 sh r1.1 x3 0) (fun r3 => gb_bd (f_J9_min_7cf53 sh r3.1 x4 (Int32.ofNat (gb_sl.getD s1 0))) (fun r5 => if r3.2 < r5.2 then (gb_bd (f_J1_indexOfChar_4cfef sh r5.1 s1 x2 r3.2 r5.2) (fun r7 => some (r7.1, r7.2))) else (some (r5.1, (-1)))))))
set_option maxRecDepth 100000 in
set_option maxHeartbeats 4000000 in
theorem t_J1_indexOf_4cfef {Γ : gb_X} {sh : List gb_Sh} {s1 : Nat} {x2 : Int32} {x3 : Int32} {x4 : Int32} {out : gb_G × Int32} (hS : gb_S sh) (h_s1 : s1 < 13) {g : gb_G} (h : f_J1_indexOf_4cfef sh g s1 x2 x3 x4 = some out) : gb_C Γ M_J1_indexOf_4cfef 1 0 0 sh g [.retAddr (20 + s1), .int x2, .int x3, .int x4] (gb_Ri sh out) := by
  refine gb_C.ofF (by decide +kernel) (Nat.le_of_ble_eq_true rfl) ?_
  refine gb_pick (lv' := [(0, .retAddr (20 + s1)), (1, .int x2), (2, .int x3), (3, .int x4)]) [0, 1, 2, 3] rfl ?_
  unfold f_J1_indexOf_4cfef at h
  refine gb_iload_n d_J1_indexOf_4cfef_0 rfl ?_
  obtain ⟨r1, e2, h⟩ := gb_bd_e h
  refine gb_cSi (As := [.int x2]) (rest := []) m_J1_88 (t_J1_canEncode_9a6ad (Γ := Γ) hS e2) (Nat.le_of_ble_eq_true rfl) rfl rfl (Nat.le_of_ble_eq_true rfl) d_J1_indexOf_4cfef_1 ?_
  refine gb_if_ne 9 d_J1_indexOf_4cfef_4 (by decide) (fun hc => ?_) (fun hc => ?_)
  · have h := gb_if hc h
    refine gb_iload_n d_J1_indexOf_4cfef_9 rfl ?_
    refine gb_iconst 0 d_J1_indexOf_4cfef_10 rfl ?_
    obtain ⟨r3, e4, h⟩ := gb_bd_e h
    refine gb_cSi (As := [.int x3, .int 0]) (rest := []) m_J1_92 (t_J9_max_7cf53 (Γ := Γ) hS e4) (Nat.le_of_ble_eq_true rfl) rfl rfl (Nat.le_of_ble_eq_true rfl) d_J1_indexOf_4cfef_11 ?_
    refine gb_istore_n [(2, .int r3.2), (0, .retAddr (20 + s1)), (1, .int x2), (3, .int x4)] d_J1_indexOf_4cfef_14 (Nat.le_of_ble_eq_true rfl) rfl ?_
    refine gb_iload_n d_J1_indexOf_4cfef_15 rfl ?_
    refine gb_rload_n d_J1_indexOf_4cfef_16 rfl ?_
    refine gb_rlen (gb_s_bytes h_s1) d_J1_indexOf_4cfef_17 ?_
    obtain ⟨r5, e6, h⟩ := gb_bd_e h
    refine gb_cSi (As := [.int x4, .int (Int32.ofNat (gb_sl.getD s1 0))]) (rest := []) m_J1_38 (t_J9_min_7cf53 (Γ := Γ) hS e6) (Nat.le_of_ble_eq_true rfl) rfl rfl (Nat.le_of_ble_eq_true rfl) d_J1_indexOf_4cfef_18 ?_
    refine gb_istore_n [(3, .int r5.2), (2, .int r3.2), (0, .retAddr (20 + s1)), (1, .int x2)] d_J1_indexOf_4cfef_21 (Nat.le_of_ble_eq_true rfl) rfl ?_
    refine gb_iload_n d_J1_indexOf_4cfef_22 rfl ?_
    refine gb_iload_n d_J1_indexOf_4cfef_23 rfl ?_
    refine gb_icmp_lt 29 d_J1_indexOf_4cfef_24 (by decide) (fun hc => ?_) (fun hc => ?_)
    · have h := gb_it hc h
      refine gb_rload_n d_J1_indexOf_4cfef_29 rfl ?_
      refine gb_iload_n d_J1_indexOf_4cfef_30 rfl ?_
      refine gb_iload_n d_J1_indexOf_4cfef_31 rfl ?_
      refine gb_iload_n d_J1_indexOf_4cfef_32 rfl ?_
      obtain ⟨r7, e8, h⟩ := gb_bd_e h
      refine gb_cSi (As := [.retAddr (20 + s1), .int x2, .int r3.2, .int r5.2]) (rest := []) m_J1_95 (t_J1_indexOfChar_4cfef (Γ := Γ) hS h_s1 e8) (Nat.le_of_ble_eq_true rfl) rfl rfl (Nat.le_of_ble_eq_true rfl) d_J1_indexOf_4cfef_33 ?_
      cases h
      exact gb_iret d_J1_indexOf_4cfef_36 rfl ⟨rfl, rfl, rfl⟩
    · have h := gb_if hc h
      refine gb_iconst (-1) d_J1_indexOf_4cfef_27 rfl ?_
      cases h
      exact gb_iret d_J1_indexOf_4cfef_28 rfl ⟨rfl, rfl, rfl⟩
  · have h := gb_it hc h
    refine gb_iconst (-1) d_J1_indexOf_4cfef_7 rfl ?_
    cases h
    exact gb_iret d_J1_indexOf_4cfef_8 rfl ⟨rfl, rfl, rfl⟩
-- J3_checkFromToIndex_8c36e
noncomputable def f_J3_checkFromToIndex_8c36e (sh : List gb_Sh) (g : gb_G) (x1 : Int32) (x2 : Int32) (x3 : Int32) : Option (gb_G × Int32) := if x1 < 0 then (none) else (if x2 < x1 then (none) else (if x2 ≤ x3 then (some (g, x1)) else (none)))
set_option maxRecDepth 100000 in
set_option maxHeartbeats 4000000 in
theorem t_J3_checkFromToIndex_8c36e {Γ : gb_X} {sh : List gb_Sh} {v4 : Value} {x1 : Int32} {x2 : Int32} {x3 : Int32} {out : gb_G × Int32} (hS : gb_S sh) (h_v4 : v4.category = 1) {g : gb_G} (h : f_J3_checkFromToIndex_8c36e sh g x1 x2 x3 = some out) : gb_C Γ M_J3_checkFromToIndex_8c36e 0 0 0 sh g [.int x1, .int x2, .int x3, v4] (gb_Ri sh out) := by
  refine gb_C.ofF (by decide +kernel) (by cases v4 <;> first | exact Nat.le_of_ble_eq_true rfl | (simp [Value.category] at h_v4)) ?_
  refine gb_pick (lv' := [(0, .int x1), (1, .int x2), (2, .int x3), (3, v4)]) [0, 1, 2, 3] rfl ?_
  unfold f_J3_checkFromToIndex_8c36e at h
  refine gb_iload_n d_J3_checkFromToIndex_8c36e_0 rfl ?_
  refine gb_if_lt 14 d_J3_checkFromToIndex_8c36e_1 (by decide) (fun hc => ?_) (fun hc => ?_)
  · have h := gb_it hc h
    cases h
  · have h := gb_if hc h
    refine gb_iload_n d_J3_checkFromToIndex_8c36e_4 rfl ?_
    refine gb_iload_n d_J3_checkFromToIndex_8c36e_5 rfl ?_
    refine gb_icmp_gt 14 d_J3_checkFromToIndex_8c36e_6 (by decide) (fun hc => ?_) (fun hc => ?_)
    · have h := gb_it hc h
      cases h
    · have h := gb_if hc h
      refine gb_iload_n d_J3_checkFromToIndex_8c36e_9 rfl ?_
      refine gb_iload_n d_J3_checkFromToIndex_8c36e_10 rfl ?_
      refine gb_icmp_le 22 d_J3_checkFromToIndex_8c36e_11 (by decide) (fun hc => ?_) (fun hc => ?_)
      · have h := gb_it hc h
        refine gb_iload_n d_J3_checkFromToIndex_8c36e_22 rfl ?_
        cases h
        exact gb_iret d_J3_checkFromToIndex_8c36e_23 rfl ⟨rfl, rfl, rfl⟩
      · have h := gb_if hc h
        cases h
-- J0_checkBoundsBeginEnd_23922
noncomputable def f_J0_checkBoundsBeginEnd_23922 (sh : List gb_Sh) (g : gb_G) (x1 : Int32) (x2 : Int32) (x3 : Int32) : Option (gb_G) := gb_bd (f_J3_checkFromToIndex_8c36e sh g x1 x2 x3) (fun r2 => some r2.1)
set_option maxRecDepth 100000 in
set_option maxHeartbeats 4000000 in
theorem t_J0_checkBoundsBeginEnd_23922 {Γ : gb_X} {sh : List gb_Sh} {x1 : Int32} {x2 : Int32} {x3 : Int32} {out : gb_G} (hS : gb_S sh) {g : gb_G} (h : f_J0_checkBoundsBeginEnd_23922 sh g x1 x2 x3 = some out) : gb_C Γ M_J0_checkBoundsBeginEnd_23922 1 0 0 sh g [.int x1, .int x2, .int x3] (gb_Rv sh out) := by
  refine gb_C.ofF (by decide +kernel) (Nat.le_of_ble_eq_true rfl) ?_
  refine gb_pick (lv' := [(0, .int x1), (1, .int x2), (2, .int x3)]) [0, 1, 2] rfl ?_
  unfold f_J0_checkBoundsBeginEnd_23922 at h
  refine gb_iload_n d_J0_checkBoundsBeginEnd_23922_0 rfl ?_
  refine gb_iload_n d_J0_checkBoundsBeginEnd_23922_1 rfl ?_
  refine gb_iload_n d_J0_checkBoundsBeginEnd_23922_2 rfl ?_
  refine gb_gstq (v0 := .null) (v1 := .retAddr 40) (fun h => h.2.2.2.1) rfl rfl rf_J0_1053 d_J0_checkBoundsBeginEnd_23922_3 (fun v1 hv1 => ?_)
  obtain ⟨r2, e3, h⟩ := gb_bd_e h
  refine gb_cSi (As := [.int x1, .int x2, .int x3, v1]) (rest := []) m_J0_1062 (t_J3_checkFromToIndex_8c36e (Γ := Γ) hS hv1 e3) (Nat.le_of_ble_eq_true rfl) rfl rfl (Nat.le_of_ble_eq_true rfl) d_J0_checkBoundsBeginEnd_23922_6 ?_
  refine gb_pop d_J0_checkBoundsBeginEnd_23922_9 rfl ?_
  cases h
  exact gb_vret d_J0_checkBoundsBeginEnd_23922_10 rfl ⟨rfl, rfl, rfl⟩
-- J0_indexOf_7cf53
noncomputable def f_J0_indexOf_7cf53 (sh : List gb_Sh) (g : gb_G) (s0 : Nat) (x1 : Int32) (x2 : Int32) : Option (gb_G × Int32) := gb_bd (f_J0_isLatin1_aae02 sh g s0) (fun r1 => if r1.2 = 0 then (none) else (gb_bd (f_J0_length_8abf5 sh r1.1 s0) (fun r5 => gb_bd (f_J1_indexOf_4cfef sh r5.1 s0 x1 x2 r5.2) (fun r7 => some (r7.1, r7.2)))))
set_option maxRecDepth 100000 in
set_option maxHeartbeats 4000000 in
theorem t_J0_indexOf_7cf53 {Γ : gb_X} {sh : List gb_Sh} {s0 : Nat} {x1 : Int32} {x2 : Int32} {out : gb_G × Int32} (hS : gb_S sh) (h_s0 : s0 < 13) {g : gb_G} (h : f_J0_indexOf_7cf53 sh g s0 x1 x2 = some out) : gb_C Γ M_J0_indexOf_7cf53 5 0 0 sh g [.retAddr (2 + s0), .int x1, .int x2] (gb_Ri sh out) := by
  refine gb_C.ofF (by decide +kernel) (Nat.le_of_ble_eq_true rfl) ?_
  refine gb_pick (lv' := [(0, .retAddr (2 + s0)), (1, .int x1), (2, .int x2)]) [0, 1, 2] rfl ?_
  unfold f_J0_indexOf_7cf53 at h
  refine gb_rload_n d_J0_indexOf_7cf53_0 rfl ?_
  obtain ⟨r1, e2, h⟩ := gb_bd_e h
  refine gb_cVSi (As := []) (rest := []) h_s0 rfl m_J0_492 (t_J0_isLatin1_aae02 (Γ := Γ) hS h_s0 e2) (Nat.le_of_ble_eq_true rfl) rfl rfl (Nat.le_of_ble_eq_true rfl) d_J0_indexOf_7cf53_1 ?_
  refine gb_if_eq 23 d_J0_indexOf_7cf53_4 (by decide) (fun hc => ?_) (fun hc => ?_)
  · have h := gb_it hc h
    cases h
  · have h := gb_if hc h
    refine gb_rload_n d_J0_indexOf_7cf53_7 rfl ?_
    refine gb_rget (v := .retAddr (20 + s0)) (gb_s_value h_s0) rf_J0_9 d_J0_indexOf_7cf53_8 ?_
    refine gb_iload_n d_J0_indexOf_7cf53_11 rfl ?_
    refine gb_iload_n d_J0_indexOf_7cf53_12 rfl ?_
    refine gb_rload_n d_J0_indexOf_7cf53_13 rfl ?_
    obtain ⟨r5, e6, h⟩ := gb_bd_e h
    refine gb_cVSi (As := []) (rest := [.int x2, .int x1, .retAddr (20 + s0)]) h_s0 rfl m_J0_505 (t_J0_length_8abf5 (Γ := Γ) hS h_s0 e6) (Nat.le_of_ble_eq_true rfl) rfl rfl (Nat.le_of_ble_eq_true rfl) d_J0_indexOf_7cf53_14 ?_
    obtain ⟨r7, e8, h⟩ := gb_bd_e h
    refine gb_cSi (As := [.retAddr (20 + s0), .int x1, .int x2, .int r5.2]) (rest := []) m_J0_637 (t_J1_indexOf_4cfef (Γ := Γ) hS h_s0 e8) (Nat.le_of_ble_eq_true rfl) rfl rfl (Nat.le_of_ble_eq_true rfl) d_J0_indexOf_7cf53_17 ?_
    refine gb_goto 36 d_J0_indexOf_7cf53_20 (by decide) ?_
    cases h
    exact gb_iret d_J0_indexOf_7cf53_36 rfl ⟨rfl, rfl, rfl⟩
-- J0_indexOf_0f7a4
noncomputable def f_J0_indexOf_0f7a4 (sh : List gb_Sh) (g : gb_G) (s0 : Nat) (x1 : Int32) : Option (gb_G × Int32) := gb_bd (f_J0_indexOf_7cf53 sh g s0 x1 0) (fun r1 => some (r1.1, r1.2))
set_option maxRecDepth 100000 in
set_option maxHeartbeats 4000000 in
theorem t_J0_indexOf_0f7a4 {Γ : gb_X} {sh : List gb_Sh} {s0 : Nat} {x1 : Int32} {out : gb_G × Int32} (hS : gb_S sh) (h_s0 : s0 < 13) {g : gb_G} (h : f_J0_indexOf_0f7a4 sh g s0 x1 = some out) : gb_C Γ M_J0_indexOf_0f7a4 6 0 0 sh g [.retAddr (2 + s0), .int x1] (gb_Ri sh out) := by
  refine gb_C.ofF (by decide +kernel) (Nat.le_of_ble_eq_true rfl) ?_
  refine gb_pick (lv' := [(0, .retAddr (2 + s0)), (1, .int x1)]) [0, 1] rfl ?_
  unfold f_J0_indexOf_0f7a4 at h
  refine gb_rload_n d_J0_indexOf_0f7a4_0 rfl ?_
  refine gb_iload_n d_J0_indexOf_0f7a4_1 rfl ?_
  refine gb_iconst 0 d_J0_indexOf_0f7a4_2 rfl ?_
  obtain ⟨r1, e2, h⟩ := gb_bd_e h
  refine gb_cVSi (As := [.int x1, .int 0]) (rest := []) h_s0 rfl m_J0_633 (t_J0_indexOf_7cf53 (Γ := Γ) hS h_s0 e2) (Nat.le_of_ble_eq_true rfl) rfl rfl (Nat.le_of_ble_eq_true rfl) d_J0_indexOf_0f7a4_3 ?_
  cases h
  exact gb_iret d_J0_indexOf_0f7a4_6 rfl ⟨rfl, rfl, rfl⟩
-- X9_ended
noncomputable def f_X9_ended (sh : List gb_Sh) (g : gb_G) : Option (gb_G × Int32) := if (g.1 43 2) < (g.1 43 1) then (some (g, 0)) else (some (g, 1))
set_option maxRecDepth 100000 in
set_option maxHeartbeats 4000000 in
theorem t_X9_ended {Γ : gb_X} {sh : List gb_Sh} {out : gb_G × Int32} (hS : gb_S sh) {g : gb_G} (h : f_X9_ended sh g = some out) : gb_C Γ M_X9_ended 0 0 0 sh g [.ref 43] (gb_Ri sh out) := by
  refine gb_C.of rfl (Nat.le_of_ble_eq_true rfl) ?_
  refine gb_pick (lv' := [(0, .ref 43)]) [0] rfl ?_
  unfold f_X9_ended at h
  refine gb_aload_n d_X9_ended_0 rfl ?_
  refine gb_geti f_X9_19 (hS 43 _ rfl) rfl d_X9_ended_1 ?_
  refine gb_aload_n d_X9_ended_4 rfl ?_
  refine gb_geti f_X9_15 (hS 43 _ rfl) rfl d_X9_ended_5 ?_
  refine gb_icmp_lt 15 d_X9_ended_8 (by decide) (fun hc => ?_) (fun hc => ?_)
  · have h := gb_it hc h
    refine gb_iconst 0 d_X9_ended_15 rfl ?_
    cases h
    exact gb_zret d_X9_ended_16 rfl rfl ⟨rfl, rfl, rfl⟩
  · have h := gb_if hc h
    refine gb_iconst 1 d_X9_ended_11 rfl ?_
    refine gb_goto 16 d_X9_ended_12 (by decide) ?_
    cases h
    exact gb_zret d_X9_ended_16 rfl rfl ⟨rfl, rfl, rfl⟩
-- X9_signIn
noncomputable def f_X9_signIn (sh : List gb_Sh) (g : gb_G) (s1 : Nat) : Option (gb_G × Int32) := gb_bd (f_X9_ended sh g) (fun r1 => if r1.2 = 0 then (gb_bd (f_X9_byteAt sh r1.1 (r1.1.1 43 2)) (fun r3 => gb_bd (f_J0_indexOf_0f7a4 sh r3.1 s1 ((r3.2.toUInt32 % 65536).toInt32)) (fun r5 => some (r5.1, r5.2)))) else (some (r1.1, (-1))))
set_option maxRecDepth 100000 in
set_option maxHeartbeats 4000000 in
theorem t_X9_signIn {Γ : gb_X} {sh : List gb_Sh} {s1 : Nat} {out : gb_G × Int32} (hS : gb_S sh) (h_s1 : s1 < 13) {g : gb_G} (h : f_X9_signIn sh g s1 = some out) : gb_C Γ M_X9_signIn 7 0 0 sh g [.ref 43, .retAddr (2 + s1)] (gb_Ri sh out) := by
  refine gb_C.of rfl (Nat.le_of_ble_eq_true rfl) ?_
  refine gb_pick (lv' := [(0, .ref 43), (1, .retAddr (2 + s1))]) [0, 1] rfl ?_
  unfold f_X9_signIn at h
  refine gb_aload_n d_X9_signIn_0 rfl ?_
  obtain ⟨r1, e2, h⟩ := gb_bd_e h
  refine gb_cVi (As := []) (rest := []) m_X9_44 (t_X9_ended (Γ := Γ) hS e2) (hS 43 _ rfl) rfl (Nat.le_of_ble_eq_true rfl) rfl rfl (Nat.le_of_ble_eq_true rfl) d_X9_signIn_1 ?_
  refine gb_if_eq 11 d_X9_signIn_4 (by decide) (fun hc => ?_) (fun hc => ?_)
  · have h := gb_it hc h
    refine gb_rload_n d_X9_signIn_11 rfl ?_
    refine gb_aload_n d_X9_signIn_12 rfl ?_
    refine gb_aload_n d_X9_signIn_13 rfl ?_
    refine gb_geti f_X9_19 (hS 43 _ rfl) rfl d_X9_signIn_14 ?_
    obtain ⟨r3, e4, h⟩ := gb_bd_e h
    refine gb_cVi (As := [.int (r1.1.1 43 2)]) (rest := [.retAddr (2 + s1)]) m_X9_31 (t_X9_byteAt (Γ := Γ) hS e4) (hS 43 _ rfl) rfl (Nat.le_of_ble_eq_true rfl) rfl rfl (Nat.le_of_ble_eq_true rfl) d_X9_signIn_17 ?_
    refine gb_i2c d_X9_signIn_20 ?_
    obtain ⟨r5, e6, h⟩ := gb_bd_e h
    refine gb_cVSi (As := [.int ((r3.2.toUInt32 % 65536).toInt32)]) (rest := []) h_s1 rfl m_X9_48 (t_J0_indexOf_0f7a4 (Γ := Γ) hS h_s1 e6) (Nat.le_of_ble_eq_true rfl) rfl rfl (Nat.le_of_ble_eq_true rfl) d_X9_signIn_21 ?_
    cases h
    exact gb_iret d_X9_signIn_24 rfl ⟨rfl, rfl, rfl⟩
  · have h := gb_if hc h
    refine gb_iconst (-1) d_X9_signIn_7 rfl ?_
    refine gb_goto 24 d_X9_signIn_8 (by decide) ?_
    cases h
    exact gb_iret d_X9_signIn_24 rfl ⟨rfl, rfl, rfl⟩
-- X8_readTerm
noncomputable def f_X8_readTerm_19 (sh : List gb_Sh) (R_X8_readPart : gb_G → Int32 → Option (gb_G × Int32)) : Nat → gb_G → Int32 → Int32 → Int32 → Int32 → Option (gb_G × Int32)
  | 0, _, _, _, _, _ => none
  | n + 1, g, y1, y2, y3, y4 => if 400 ≤ y4 then (gb_bo y2 (some (g, y2))) else (if y2 = 0 then (gb_bo y2 (some (g, y2))) else (if y3 = (-1) then (gb_bo y2 (some (g, y2))) else (gb_bd (f_X9_step sh g) (fun r8 => gb_bd (R_X8_readPart r8 y1) (fun r10 => gb_bd (f_X7_emit sh r10.1 46 (7 + y3) 0) (fun r12 => gb_bd (f_X9_signIn sh r12.1 10) (fun r14 => f_X8_readTerm_19 sh R_X8_readPart n r14.1 y1 r10.2 r14.2 (y4 + 1))))))))
noncomputable def f_X8_readTerm (sh : List gb_Sh) (R_X8_readPart : gb_G → Int32 → Option (gb_G × Int32)) (g : gb_G) (x1 : Int32) : Option (gb_G × Int32) := gb_bd (R_X8_readPart g x1) (fun r1 => gb_bd (f_X9_signIn sh r1.1 10) (fun r3 => f_X8_readTerm_19 sh R_X8_readPart gb_N r3.1 x1 r1.2 r3.2 0))
set_option maxRecDepth 100000 in
set_option maxHeartbeats 4000000 in
theorem t_X8_readTerm_19 {Γ : gb_X} {dR : Nat} {sh : List gb_Sh} {out : gb_G × Int32} {R_X8_readPart : gb_G → Int32 → Option (gb_G × Int32)} (hS : gb_S sh) (hR_X8_readPart : ∀ (g : gb_G) (x : Int32) {o : gb_G × Int32}, R_X8_readPart g x = some o → gb_C Γ M_X8_readPart dR 0 0 sh g [.ref 45, .int x] (gb_Ri sh o)) : ∀ (n : Nat) (g : gb_G) (y1 : Int32) (y2 : Int32) (y3 : Int32) (y4 : Int32), f_X8_readTerm_19 sh R_X8_readPart n g y1 y2 y3 y4 = some out → gb_J Γ M_X8_readTerm (dR + 8) (gb_Ri sh out) 0 0 sh g 19 [(0, .ref 45), (1, .int y1), (2, .int y2), (3, .int y3), (4, .int y4)] [] := by
  intro n
  induction n with
  | zero => intro g y1 y2 y3 y4 h; cases h
  | succ n ih =>
    intro g y1 y2 y3 y4 h
    rw [f_X8_readTerm_19] at h
    refine gb_iload d_X8_readTerm_19 rfl ?_
    refine gb_sipush 400 d_X8_readTerm_21 rfl ?_
    refine gb_icmp_ge 78 d_X8_readTerm_24 (by decide) (fun hc => ?_) (fun hc => ?_)
    · have h := gb_it hc h
      refine gb_iload_n d_X8_readTerm_78 rfl ?_
      obtain ⟨hb5, h⟩ := gb_bo_e h
      cases h
      exact gb_zret d_X8_readTerm_79 rfl hb5 ⟨rfl, rfl, rfl⟩
    · have h := gb_if hc h
      refine gb_iload_n d_X8_readTerm_27 rfl ?_
      refine gb_if_eq 78 d_X8_readTerm_28 (by decide) (fun hc => ?_) (fun hc => ?_)
      · have h := gb_it hc h
        refine gb_iload_n d_X8_readTerm_78 rfl ?_
        obtain ⟨hb6, h⟩ := gb_bo_e h
        cases h
        exact gb_zret d_X8_readTerm_79 rfl hb6 ⟨rfl, rfl, rfl⟩
      · have h := gb_if hc h
        refine gb_iload_n d_X8_readTerm_31 rfl ?_
        refine gb_iconst (-1) d_X8_readTerm_32 rfl ?_
        refine gb_icmp_eq 78 d_X8_readTerm_33 (by decide) (fun hc => ?_) (fun hc => ?_)
        · have h := gb_it hc h
          refine gb_iload_n d_X8_readTerm_78 rfl ?_
          obtain ⟨hb7, h⟩ := gb_bo_e h
          cases h
          exact gb_zret d_X8_readTerm_79 rfl hb7 ⟨rfl, rfl, rfl⟩
        · have h := gb_if hc h
          refine gb_aload_n d_X8_readTerm_36 rfl ?_
          refine gb_getr (r := 43) f_X8_26 (hS 45 _ rfl) rfl d_X8_readTerm_37 ?_
          obtain ⟨r8, e9, h⟩ := gb_bd_e h
          refine gb_cVv (As := []) (rest := []) m_X8_63 (t_X9_step (Γ := Γ) hS e9) (hS 43 _ rfl) rfl (by omega) rfl rfl (Nat.le_of_ble_eq_true rfl) d_X8_readTerm_40 ?_
          refine gb_aload_n d_X8_readTerm_43 rfl ?_
          refine gb_iload_n d_X8_readTerm_44 rfl ?_
          obtain ⟨r10, e11, h⟩ := gb_bd_e h
          refine gb_cVi (As := [.int y1]) (rest := []) m_X8_138 (hR_X8_readPart _ y1 e11) (hS 45 _ rfl) rfl (by omega) rfl rfl (Nat.le_of_ble_eq_true rfl) d_X8_readTerm_45 ?_
          refine gb_istore_n [(2, .int r10.2), (0, .ref 45), (1, .int y1), (3, .int y3), (4, .int y4)] d_X8_readTerm_48 (Nat.le_of_ble_eq_true rfl) rfl ?_
          refine gb_aload_n d_X8_readTerm_49 rfl ?_
          refine gb_getr (r := 46) f_X8_12 (hS 45 _ rfl) rfl d_X8_readTerm_50 ?_
          refine gb_bipush 7 d_X8_readTerm_53 rfl ?_
          refine gb_iload_n d_X8_readTerm_55 rfl ?_
          refine gb_iadd d_X8_readTerm_56 ?_
          refine gb_iconst 0 d_X8_readTerm_57 rfl ?_
          obtain ⟨r12, e13, h⟩ := gb_bd_e h
          refine gb_cVi (As := [.int (7 + y3), .int 0]) (rest := []) m_X8_114 (t_X7_emit (Γ := Γ) hS (ok_X7_46 hS) e13) (ok_X7_46 hS).1 rfl (by omega) rfl rfl (Nat.le_of_ble_eq_true rfl) d_X8_readTerm_58 ?_
          refine gb_pop d_X8_readTerm_61 rfl ?_
          refine gb_aload_n d_X8_readTerm_62 rfl ?_
          refine gb_getr (r := 43) f_X8_26 (hS 45 _ rfl) rfl d_X8_readTerm_63 ?_
          refine gb_ldcS 10 rfl d_X8_readTerm_66 ?_
          obtain ⟨r14, e15, h⟩ := gb_bd_e h
          refine gb_cVi (As := [.retAddr (2 + 10)]) (rest := []) m_X8_130 (t_X9_signIn (Γ := Γ) hS (by decide) e15) (hS 43 _ rfl) rfl (by omega) rfl rfl (Nat.le_of_ble_eq_true rfl) d_X8_readTerm_68 ?_
          refine gb_istore_n [(3, .int r14.2), (2, .int r10.2), (0, .ref 45), (1, .int y1), (4, .int y4)] d_X8_readTerm_71 (Nat.le_of_ble_eq_true rfl) rfl ?_
          refine gb_iinc (y4 + 1) [(4, .int (y4 + 1)), (3, .int r14.2), (2, .int r10.2), (0, .ref 45), (1, .int y1)] d_X8_readTerm_72 (Nat.le_of_ble_eq_true rfl) rfl rfl rfl ?_
          refine gb_goto 19 d_X8_readTerm_75 (by decide) ?_
          refine gb_pick (lv' := [(0, .ref 45), (1, .int y1), (2, .int r10.2), (3, .int r14.2), (4, .int (y4 + 1))]) [3, 4, 2, 1, 0] rfl ?_
          exact ih _ y1 r10.2 r14.2 (y4 + 1) h
set_option maxRecDepth 100000 in
set_option maxHeartbeats 4000000 in
theorem t_X8_readTerm {Γ : gb_X} {dR : Nat} {sh : List gb_Sh} {x1 : Int32} {out : gb_G × Int32} {R_X8_readPart : gb_G → Int32 → Option (gb_G × Int32)} (hS : gb_S sh) (hR_X8_readPart : ∀ (g : gb_G) (x : Int32) {o : gb_G × Int32}, R_X8_readPart g x = some o → gb_C Γ M_X8_readPart dR 0 0 sh g [.ref 45, .int x] (gb_Ri sh o)) {g : gb_G} (h : f_X8_readTerm sh R_X8_readPart g x1 = some out) : gb_C Γ M_X8_readTerm (dR + 8) 0 0 sh g [.ref 45, .int x1] (gb_Ri sh out) := by
  refine gb_C.of rfl (Nat.le_of_ble_eq_true rfl) ?_
  refine gb_pick (lv' := [(0, .ref 45), (1, .int x1)]) [0, 1] rfl ?_
  unfold f_X8_readTerm at h
  refine gb_aload_n d_X8_readTerm_0 rfl ?_
  refine gb_iload_n d_X8_readTerm_1 rfl ?_
  obtain ⟨r1, e2, h⟩ := gb_bd_e h
  refine gb_cVi (As := [.int x1]) (rest := []) m_X8_138 (hR_X8_readPart _ x1 e2) (hS 45 _ rfl) rfl (by omega) rfl rfl (Nat.le_of_ble_eq_true rfl) d_X8_readTerm_2 ?_
  refine gb_istore_n [(2, .int r1.2), (0, .ref 45), (1, .int x1)] d_X8_readTerm_5 (Nat.le_of_ble_eq_true rfl) rfl ?_
  refine gb_aload_n d_X8_readTerm_6 rfl ?_
  refine gb_getr (r := 43) f_X8_26 (hS 45 _ rfl) rfl d_X8_readTerm_7 ?_
  refine gb_ldcS 10 rfl d_X8_readTerm_10 ?_
  obtain ⟨r3, e4, h⟩ := gb_bd_e h
  refine gb_cVi (As := [.retAddr (2 + 10)]) (rest := []) m_X8_130 (t_X9_signIn (Γ := Γ) hS (by decide) e4) (hS 43 _ rfl) rfl (by omega) rfl rfl (Nat.le_of_ble_eq_true rfl) d_X8_readTerm_12 ?_
  refine gb_istore_n [(3, .int r3.2), (2, .int r1.2), (0, .ref 45), (1, .int x1)] d_X8_readTerm_15 (Nat.le_of_ble_eq_true rfl) rfl ?_
  refine gb_iconst 0 d_X8_readTerm_16 rfl ?_
  refine gb_istore [(4, .int 0), (3, .int r3.2), (2, .int r1.2), (0, .ref 45), (1, .int x1)] d_X8_readTerm_17 (Nat.le_of_ble_eq_true rfl) rfl ?_
  refine gb_pick (lv' := [(0, .ref 45), (1, .int x1), (2, .int r1.2), (3, .int r3.2), (4, .int 0)]) [3, 4, 2, 1, 0] rfl ?_
  exact t_X8_readTerm_19 hS hR_X8_readPart  gb_N _ x1 r1.2 r3.2 0 h
-- X8_readSum
noncomputable def f_X8_readSum_19 (sh : List gb_Sh) (R_X8_readTerm : gb_G → Int32 → Option (gb_G × Int32)) : Nat → gb_G → Int32 → Int32 → Int32 → Int32 → Option (gb_G × Int32)
  | 0, _, _, _, _, _ => none
  | n + 1, g, y1, y2, y3, y4 => if 400 ≤ y4 then (gb_bo y2 (some (g, y2))) else (if y2 = 0 then (gb_bo y2 (some (g, y2))) else (if y3 = (-1) then (gb_bo y2 (some (g, y2))) else (gb_bd (f_X9_step sh g) (fun r8 => gb_bd (R_X8_readTerm r8 y1) (fun r10 => gb_bd (f_X7_emit sh r10.1 46 (5 + y3) 0) (fun r12 => gb_bd (f_X9_signIn sh r12.1 9) (fun r14 => f_X8_readSum_19 sh R_X8_readTerm n r14.1 y1 r10.2 r14.2 (y4 + 1))))))))
noncomputable def f_X8_readSum (sh : List gb_Sh) (R_X8_readTerm : gb_G → Int32 → Option (gb_G × Int32)) (g : gb_G) (x1 : Int32) : Option (gb_G × Int32) := gb_bd (R_X8_readTerm g x1) (fun r1 => gb_bd (f_X9_signIn sh r1.1 9) (fun r3 => f_X8_readSum_19 sh R_X8_readTerm gb_N r3.1 x1 r1.2 r3.2 0))
set_option maxRecDepth 100000 in
set_option maxHeartbeats 4000000 in
theorem t_X8_readSum_19 {Γ : gb_X} {dR : Nat} {sh : List gb_Sh} {out : gb_G × Int32} {R_X8_readTerm : gb_G → Int32 → Option (gb_G × Int32)} (hS : gb_S sh) (hR_X8_readTerm : ∀ (g : gb_G) (x : Int32) {o : gb_G × Int32}, R_X8_readTerm g x = some o → gb_C Γ M_X8_readTerm dR 0 0 sh g [.ref 45, .int x] (gb_Ri sh o)) : ∀ (n : Nat) (g : gb_G) (y1 : Int32) (y2 : Int32) (y3 : Int32) (y4 : Int32), f_X8_readSum_19 sh R_X8_readTerm n g y1 y2 y3 y4 = some out → gb_J Γ M_X8_readSum (dR + 8) (gb_Ri sh out) 0 0 sh g 19 [(0, .ref 45), (1, .int y1), (2, .int y2), (3, .int y3), (4, .int y4)] [] := by
  intro n
  induction n with
  | zero => intro g y1 y2 y3 y4 h; cases h
  | succ n ih =>
    intro g y1 y2 y3 y4 h
    rw [f_X8_readSum_19] at h
    refine gb_iload d_X8_readSum_19 rfl ?_
    refine gb_sipush 400 d_X8_readSum_21 rfl ?_
    refine gb_icmp_ge 77 d_X8_readSum_24 (by decide) (fun hc => ?_) (fun hc => ?_)
    · have h := gb_it hc h
      refine gb_iload_n d_X8_readSum_77 rfl ?_
      obtain ⟨hb5, h⟩ := gb_bo_e h
      cases h
      exact gb_zret d_X8_readSum_78 rfl hb5 ⟨rfl, rfl, rfl⟩
    · have h := gb_if hc h
      refine gb_iload_n d_X8_readSum_27 rfl ?_
      refine gb_if_eq 77 d_X8_readSum_28 (by decide) (fun hc => ?_) (fun hc => ?_)
      · have h := gb_it hc h
        refine gb_iload_n d_X8_readSum_77 rfl ?_
        obtain ⟨hb6, h⟩ := gb_bo_e h
        cases h
        exact gb_zret d_X8_readSum_78 rfl hb6 ⟨rfl, rfl, rfl⟩
      · have h := gb_if hc h
        refine gb_iload_n d_X8_readSum_31 rfl ?_
        refine gb_iconst (-1) d_X8_readSum_32 rfl ?_
        refine gb_icmp_eq 77 d_X8_readSum_33 (by decide) (fun hc => ?_) (fun hc => ?_)
        · have h := gb_it hc h
          refine gb_iload_n d_X8_readSum_77 rfl ?_
          obtain ⟨hb7, h⟩ := gb_bo_e h
          cases h
          exact gb_zret d_X8_readSum_78 rfl hb7 ⟨rfl, rfl, rfl⟩
        · have h := gb_if hc h
          refine gb_aload_n d_X8_readSum_36 rfl ?_
          refine gb_getr (r := 43) f_X8_26 (hS 45 _ rfl) rfl d_X8_readSum_37 ?_
          obtain ⟨r8, e9, h⟩ := gb_bd_e h
          refine gb_cVv (As := []) (rest := []) m_X8_63 (t_X9_step (Γ := Γ) hS e9) (hS 43 _ rfl) rfl (by omega) rfl rfl (Nat.le_of_ble_eq_true rfl) d_X8_readSum_40 ?_
          refine gb_aload_n d_X8_readSum_43 rfl ?_
          refine gb_iload_n d_X8_readSum_44 rfl ?_
          obtain ⟨r10, e11, h⟩ := gb_bd_e h
          refine gb_cVi (As := [.int y1]) (rest := []) m_X8_133 (hR_X8_readTerm _ y1 e11) (hS 45 _ rfl) rfl (by omega) rfl rfl (Nat.le_of_ble_eq_true rfl) d_X8_readSum_45 ?_
          refine gb_istore_n [(2, .int r10.2), (0, .ref 45), (1, .int y1), (3, .int y3), (4, .int y4)] d_X8_readSum_48 (Nat.le_of_ble_eq_true rfl) rfl ?_
          refine gb_aload_n d_X8_readSum_49 rfl ?_
          refine gb_getr (r := 46) f_X8_12 (hS 45 _ rfl) rfl d_X8_readSum_50 ?_
          refine gb_iconst 5 d_X8_readSum_53 rfl ?_
          refine gb_iload_n d_X8_readSum_54 rfl ?_
          refine gb_iadd d_X8_readSum_55 ?_
          refine gb_iconst 0 d_X8_readSum_56 rfl ?_
          obtain ⟨r12, e13, h⟩ := gb_bd_e h
          refine gb_cVi (As := [.int (5 + y3), .int 0]) (rest := []) m_X8_114 (t_X7_emit (Γ := Γ) hS (ok_X7_46 hS) e13) (ok_X7_46 hS).1 rfl (by omega) rfl rfl (Nat.le_of_ble_eq_true rfl) d_X8_readSum_57 ?_
          refine gb_pop d_X8_readSum_60 rfl ?_
          refine gb_aload_n d_X8_readSum_61 rfl ?_
          refine gb_getr (r := 43) f_X8_26 (hS 45 _ rfl) rfl d_X8_readSum_62 ?_
          refine gb_ldcS 9 rfl d_X8_readSum_65 ?_
          obtain ⟨r14, e15, h⟩ := gb_bd_e h
          refine gb_cVi (As := [.retAddr (2 + 9)]) (rest := []) m_X8_130 (t_X9_signIn (Γ := Γ) hS (by decide) e15) (hS 43 _ rfl) rfl (by omega) rfl rfl (Nat.le_of_ble_eq_true rfl) d_X8_readSum_67 ?_
          refine gb_istore_n [(3, .int r14.2), (2, .int r10.2), (0, .ref 45), (1, .int y1), (4, .int y4)] d_X8_readSum_70 (Nat.le_of_ble_eq_true rfl) rfl ?_
          refine gb_iinc (y4 + 1) [(4, .int (y4 + 1)), (3, .int r14.2), (2, .int r10.2), (0, .ref 45), (1, .int y1)] d_X8_readSum_71 (Nat.le_of_ble_eq_true rfl) rfl rfl rfl ?_
          refine gb_goto 19 d_X8_readSum_74 (by decide) ?_
          refine gb_pick (lv' := [(0, .ref 45), (1, .int y1), (2, .int r10.2), (3, .int r14.2), (4, .int (y4 + 1))]) [3, 4, 2, 1, 0] rfl ?_
          exact ih _ y1 r10.2 r14.2 (y4 + 1) h
set_option maxRecDepth 100000 in
set_option maxHeartbeats 4000000 in
theorem t_X8_readSum {Γ : gb_X} {dR : Nat} {sh : List gb_Sh} {x1 : Int32} {out : gb_G × Int32} {R_X8_readTerm : gb_G → Int32 → Option (gb_G × Int32)} (hS : gb_S sh) (hR_X8_readTerm : ∀ (g : gb_G) (x : Int32) {o : gb_G × Int32}, R_X8_readTerm g x = some o → gb_C Γ M_X8_readTerm dR 0 0 sh g [.ref 45, .int x] (gb_Ri sh o)) {g : gb_G} (h : f_X8_readSum sh R_X8_readTerm g x1 = some out) : gb_C Γ M_X8_readSum (dR + 8) 0 0 sh g [.ref 45, .int x1] (gb_Ri sh out) := by
  refine gb_C.of rfl (Nat.le_of_ble_eq_true rfl) ?_
  refine gb_pick (lv' := [(0, .ref 45), (1, .int x1)]) [0, 1] rfl ?_
  unfold f_X8_readSum at h
  refine gb_aload_n d_X8_readSum_0 rfl ?_
  refine gb_iload_n d_X8_readSum_1 rfl ?_
  obtain ⟨r1, e2, h⟩ := gb_bd_e h
  refine gb_cVi (As := [.int x1]) (rest := []) m_X8_133 (hR_X8_readTerm _ x1 e2) (hS 45 _ rfl) rfl (by omega) rfl rfl (Nat.le_of_ble_eq_true rfl) d_X8_readSum_2 ?_
  refine gb_istore_n [(2, .int r1.2), (0, .ref 45), (1, .int x1)] d_X8_readSum_5 (Nat.le_of_ble_eq_true rfl) rfl ?_
  refine gb_aload_n d_X8_readSum_6 rfl ?_
  refine gb_getr (r := 43) f_X8_26 (hS 45 _ rfl) rfl d_X8_readSum_7 ?_
  refine gb_ldcS 9 rfl d_X8_readSum_10 ?_
  obtain ⟨r3, e4, h⟩ := gb_bd_e h
  refine gb_cVi (As := [.retAddr (2 + 9)]) (rest := []) m_X8_130 (t_X9_signIn (Γ := Γ) hS (by decide) e4) (hS 43 _ rfl) rfl (by omega) rfl rfl (Nat.le_of_ble_eq_true rfl) d_X8_readSum_12 ?_
  refine gb_istore_n [(3, .int r3.2), (2, .int r1.2), (0, .ref 45), (1, .int x1)] d_X8_readSum_15 (Nat.le_of_ble_eq_true rfl) rfl ?_
  refine gb_iconst 0 d_X8_readSum_16 rfl ?_
  refine gb_istore [(4, .int 0), (3, .int r3.2), (2, .int r1.2), (0, .ref 45), (1, .int x1)] d_X8_readSum_17 (Nat.le_of_ble_eq_true rfl) rfl ?_
  refine gb_pick (lv' := [(0, .ref 45), (1, .int x1), (2, .int r1.2), (3, .int r3.2), (4, .int 0)]) [3, 4, 2, 1, 0] rfl ?_
  exact t_X8_readSum_19 hS hR_X8_readTerm  gb_N _ x1 r1.2 r3.2 0 h
-- X8_readPlain
noncomputable def f_X8_readPlain_123 (sh : List gb_Sh) (R_X8_readSum : gb_G → Int32 → Option (gb_G × Int32)) (R_X8_readTest : gb_G → Int32 → Option (gb_G × Int32)) (K155 : gb_G → Int32 → Int32 → Option (gb_G × Int32)) (g : gb_G) (y1 : Int32) (y2 : Int32) (y4 : Int32) (z0 : Int32) : Option (gb_G × Int32) := if z0 = 0 then (K155 g y2 z0) else (gb_bd (f_X9_step sh g) (fun r7 => gb_bd (R_X8_readSum r7 y1) (fun r9 => gb_bd (f_X7_emit sh r9.1 46 (10 + y4) 0) (fun r11 => K155 r11.1 y2 r9.2))))
noncomputable def f_X8_readPlain_155 (sh : List gb_Sh) (R_X8_readSum : gb_G → Int32 → Option (gb_G × Int32)) (R_X8_readTest : gb_G → Int32 → Option (gb_G × Int32)) (g : gb_G) (y2 : Int32) (y3 : Int32) : Option (gb_G × Int32) := if y2 = 0 then (gb_bo y3 (some (g, y3))) else (gb_bd (f_X7_emit sh g 46 2 0) (fun r14 => gb_bo y3 (some (r14.1, y3))))
noncomputable def f_X8_readPlain_87 (sh : List gb_Sh) (R_X8_readSum : gb_G → Int32 → Option (gb_G × Int32)) (R_X8_readTest : gb_G → Int32 → Option (gb_G × Int32)) (K155 : gb_G → Int32 → Int32 → Option (gb_G × Int32)) (g : gb_G) (y2 : Int32) (z0 : Int32) : Option (gb_G × Int32) := K155 g y2 z0
noncomputable def f_X8_readPlain_36 (sh : List gb_Sh) (R_X8_readSum : gb_G → Int32 → Option (gb_G × Int32)) (R_X8_readTest : gb_G → Int32 → Option (gb_G × Int32)) (g : gb_G) (y1 : Int32) (y2 : Int32) : Option (gb_G × Int32) := gb_bd (f_X9_isSign sh g 40) (fun r1 => if r1.2 = 0 then (gb_bd (R_X8_readSum r1.1 y1) (fun r3 => gb_bd (f_X9_signIn sh r3.1 8) (fun r5 => if r3.2 = 0 then (f_X8_readPlain_123 sh R_X8_readSum R_X8_readTest (fun w w0 w1 => f_X8_readPlain_155 sh R_X8_readSum R_X8_readTest w w0 w1) r5.1 y1 y2 r5.2 0) else (if r5.2 = (-1) then (f_X8_readPlain_123 sh R_X8_readSum R_X8_readTest (fun w w0 w1 => f_X8_readPlain_155 sh R_X8_readSum R_X8_readTest w w0 w1) r5.1 y1 y2 r5.2 0) else (f_X8_readPlain_123 sh R_X8_readSum R_X8_readTest (fun w w0 w1 => f_X8_readPlain_155 sh R_X8_readSum R_X8_readTest w w0 w1) r5.1 y1 y2 r5.2 1))))) else (if 8 ≤ y1 then (f_X8_readPlain_87 sh R_X8_readSum R_X8_readTest (fun w w0 w1 => f_X8_readPlain_155 sh R_X8_readSum R_X8_readTest w w0 w1) r1.1 y2 0) else (gb_bd (f_X8_readSign sh r1.1 40) (fun r17 => if r17.2 = 0 then (f_X8_readPlain_87 sh R_X8_readSum R_X8_readTest (fun w w0 w1 => f_X8_readPlain_155 sh R_X8_readSum R_X8_readTest w w0 w1) r17.1 y2 0) else (gb_bd (R_X8_readTest r17.1 (y1 + 1)) (fun r19 => if r19.2 = 0 then (f_X8_readPlain_87 sh R_X8_readSum R_X8_readTest (fun w w0 w1 => f_X8_readPlain_155 sh R_X8_readSum R_X8_readTest w w0 w1) r19.1 y2 0) else (gb_bd (f_X8_readSign sh r19.1 41) (fun r21 => if r21.2 = 0 then (f_X8_readPlain_87 sh R_X8_readSum R_X8_readTest (fun w w0 w1 => f_X8_readPlain_155 sh R_X8_readSum R_X8_readTest w w0 w1) r21.1 y2 0) else (f_X8_readPlain_87 sh R_X8_readSum R_X8_readTest (fun w w0 w1 => f_X8_readPlain_155 sh R_X8_readSum R_X8_readTest w w0 w1) r21.1 y2 1)))))))))
noncomputable def f_X8_readPlain_29 (sh : List gb_Sh) (R_X8_readSum : gb_G → Int32 → Option (gb_G × Int32)) (R_X8_readTest : gb_G → Int32 → Option (gb_G × Int32)) (K4 : gb_G → Int32 → Int32 → Int32 → Option (gb_G × Int32)) (g : gb_G) (y1 : Int32) (y3 : Int32) (z0 : Int32) : Option (gb_G × Int32) := K4 g y1 z0 (y3 + 1)
noncomputable def f_X8_readPlain_4 (sh : List gb_Sh) (R_X8_readSum : gb_G → Int32 → Option (gb_G × Int32)) (R_X8_readTest : gb_G → Int32 → Option (gb_G × Int32)) : Nat → gb_G → Int32 → Int32 → Int32 → Option (gb_G × Int32)
  | 0, _, _, _, _ => none
  | n + 1, g, y1, y2, y3 => if 400 ≤ y3 then (f_X8_readPlain_36 sh R_X8_readSum R_X8_readTest g y1 y2) else (gb_bd (f_X8_readKeyword sh g 7) (fun r23 => if r23.2 = 0 then (f_X8_readPlain_36 sh R_X8_readSum R_X8_readTest r23.1 y1 y2) else (if y2 = 0 then (f_X8_readPlain_29 sh R_X8_readSum R_X8_readTest (fun w w0 w1 w2 => f_X8_readPlain_4 sh R_X8_readSum R_X8_readTest n w w0 w1 w2) r23.1 y1 y3 1) else (f_X8_readPlain_29 sh R_X8_readSum R_X8_readTest (fun w w0 w1 w2 => f_X8_readPlain_4 sh R_X8_readSum R_X8_readTest n w w0 w1 w2) r23.1 y1 y3 0))))
noncomputable def f_X8_readPlain (sh : List gb_Sh) (R_X8_readSum : gb_G → Int32 → Option (gb_G × Int32)) (R_X8_readTest : gb_G → Int32 → Option (gb_G × Int32)) (g : gb_G) (x1 : Int32) : Option (gb_G × Int32) := f_X8_readPlain_4 sh R_X8_readSum R_X8_readTest gb_N g x1 0 0
set_option maxRecDepth 100000 in
set_option maxHeartbeats 4000000 in
theorem t_X8_readPlain_123 {Γ : gb_X} {dR : Nat} {sh : List gb_Sh} {out : gb_G × Int32} {R_X8_readSum : gb_G → Int32 → Option (gb_G × Int32)} {R_X8_readTest : gb_G → Int32 → Option (gb_G × Int32)} (hS : gb_S sh) (hR_X8_readSum : ∀ (g : gb_G) (x : Int32) {o : gb_G × Int32}, R_X8_readSum g x = some o → gb_C Γ M_X8_readSum dR 0 0 sh g [.ref 45, .int x] (gb_Ri sh o)) (hR_X8_readTest : ∀ (g : gb_G) (x : Int32) {o : gb_G × Int32}, R_X8_readTest g x = some o → gb_C Γ M_X8_readTest dR 0 0 sh g [.ref 45, .int x] (gb_Ri sh o)) {K155 : gb_G → Int32 → Int32 → Option (gb_G × Int32)} (hK155 : ∀ (g : gb_G) (y2 : Int32) (y3 : Int32), K155 g y2 y3 = some out → gb_J Γ M_X8_readPlain (dR + 8) (gb_Ri sh out) 0 0 sh g 155 [(0, .ref 45), (2, .int y2), (3, .int y3)] []) : ∀ (g : gb_G) (y1 : Int32) (y2 : Int32) (y4 : Int32) (z0 : Int32), f_X8_readPlain_123 sh R_X8_readSum R_X8_readTest K155 g y1 y2 y4 z0 = some out → gb_J Γ M_X8_readPlain (dR + 8) (gb_Ri sh out) 0 0 sh g 123 [(0, .ref 45), (1, .int y1), (2, .int y2), (4, .int y4)] [.int z0] := by
  intro g y1 y2 y4 z0 h
  unfold f_X8_readPlain_123 at h
  refine gb_istore_n [(3, .int z0), (0, .ref 45), (1, .int y1), (2, .int y2), (4, .int y4)] d_X8_readPlain_123 (Nat.le_of_ble_eq_true rfl) rfl ?_
  refine gb_iload_n d_X8_readPlain_124 rfl ?_
  refine gb_if_eq 155 d_X8_readPlain_125 (by decide) (fun hc => ?_) (fun hc => ?_)
  · have h := gb_it hc h
    refine gb_pick (lv' := [(0, .ref 45), (2, .int y2), (3, .int z0)]) [1, 3, 0] rfl ?_
    exact hK155 _ y2 z0 h
  · have h := gb_if hc h
    refine gb_aload_n d_X8_readPlain_128 rfl ?_
    refine gb_getr (r := 43) f_X8_26 (hS 45 _ rfl) rfl d_X8_readPlain_129 ?_
    obtain ⟨r7, e8, h⟩ := gb_bd_e h
    refine gb_cVv (As := []) (rest := []) m_X8_63 (t_X9_step (Γ := Γ) hS e8) (hS 43 _ rfl) rfl (by omega) rfl rfl (Nat.le_of_ble_eq_true rfl) d_X8_readPlain_132 ?_
    refine gb_aload_n d_X8_readPlain_135 rfl ?_
    refine gb_iload_n d_X8_readPlain_136 rfl ?_
    obtain ⟨r9, e10, h⟩ := gb_bd_e h
    refine gb_cVi (As := [.int y1]) (rest := []) m_X8_70 (hR_X8_readSum _ y1 e10) (hS 45 _ rfl) rfl (by omega) rfl rfl (Nat.le_of_ble_eq_true rfl) d_X8_readPlain_137 ?_
    refine gb_istore_n [(3, .int r9.2), (0, .ref 45), (1, .int y1), (2, .int y2), (4, .int y4)] d_X8_readPlain_140 (Nat.le_of_ble_eq_true rfl) rfl ?_
    refine gb_aload_n d_X8_readPlain_141 rfl ?_
    refine gb_getr (r := 46) f_X8_12 (hS 45 _ rfl) rfl d_X8_readPlain_142 ?_
    refine gb_bipush 10 d_X8_readPlain_145 rfl ?_
    refine gb_iload d_X8_readPlain_147 rfl ?_
    refine gb_iadd d_X8_readPlain_149 ?_
    refine gb_iconst 0 d_X8_readPlain_150 rfl ?_
    obtain ⟨r11, e12, h⟩ := gb_bd_e h
    refine gb_cVi (As := [.int (10 + y4), .int 0]) (rest := []) m_X8_114 (t_X7_emit (Γ := Γ) hS (ok_X7_46 hS) e12) (ok_X7_46 hS).1 rfl (by omega) rfl rfl (Nat.le_of_ble_eq_true rfl) d_X8_readPlain_151 ?_
    refine gb_pop d_X8_readPlain_154 rfl ?_
    refine gb_pick (lv' := [(0, .ref 45), (2, .int y2), (3, .int r9.2)]) [1, 3, 0] rfl ?_
    exact hK155 _ y2 r9.2 h
set_option maxRecDepth 100000 in
set_option maxHeartbeats 4000000 in
theorem t_X8_readPlain_155 {Γ : gb_X} {dR : Nat} {sh : List gb_Sh} {out : gb_G × Int32} {R_X8_readSum : gb_G → Int32 → Option (gb_G × Int32)} {R_X8_readTest : gb_G → Int32 → Option (gb_G × Int32)} (hS : gb_S sh) (hR_X8_readSum : ∀ (g : gb_G) (x : Int32) {o : gb_G × Int32}, R_X8_readSum g x = some o → gb_C Γ M_X8_readSum dR 0 0 sh g [.ref 45, .int x] (gb_Ri sh o)) (hR_X8_readTest : ∀ (g : gb_G) (x : Int32) {o : gb_G × Int32}, R_X8_readTest g x = some o → gb_C Γ M_X8_readTest dR 0 0 sh g [.ref 45, .int x] (gb_Ri sh o)) : ∀ (g : gb_G) (y2 : Int32) (y3 : Int32), f_X8_readPlain_155 sh R_X8_readSum R_X8_readTest g y2 y3 = some out → gb_J Γ M_X8_readPlain (dR + 8) (gb_Ri sh out) 0 0 sh g 155 [(0, .ref 45), (2, .int y2), (3, .int y3)] [] := by
  intro g y2 y3 h
  unfold f_X8_readPlain_155 at h
  refine gb_iload_n d_X8_readPlain_155 rfl ?_
  refine gb_if_eq 169 d_X8_readPlain_156 (by decide) (fun hc => ?_) (fun hc => ?_)
  · have h := gb_it hc h
    refine gb_iload_n d_X8_readPlain_169 rfl ?_
    obtain ⟨hb13, h⟩ := gb_bo_e h
    cases h
    exact gb_zret d_X8_readPlain_170 rfl hb13 ⟨rfl, rfl, rfl⟩
  · have h := gb_if hc h
    refine gb_aload_n d_X8_readPlain_159 rfl ?_
    refine gb_getr (r := 46) f_X8_12 (hS 45 _ rfl) rfl d_X8_readPlain_160 ?_
    refine gb_iconst 2 d_X8_readPlain_163 rfl ?_
    refine gb_iconst 0 d_X8_readPlain_164 rfl ?_
    obtain ⟨r14, e15, h⟩ := gb_bd_e h
    refine gb_cVi (As := [.int 2, .int 0]) (rest := []) m_X8_114 (t_X7_emit (Γ := Γ) hS (ok_X7_46 hS) e15) (ok_X7_46 hS).1 rfl (by omega) rfl rfl (Nat.le_of_ble_eq_true rfl) d_X8_readPlain_165 ?_
    refine gb_pop d_X8_readPlain_168 rfl ?_
    refine gb_iload_n d_X8_readPlain_169 rfl ?_
    obtain ⟨hb16, h⟩ := gb_bo_e h
    cases h
    exact gb_zret d_X8_readPlain_170 rfl hb16 ⟨rfl, rfl, rfl⟩
set_option maxRecDepth 100000 in
set_option maxHeartbeats 4000000 in
theorem t_X8_readPlain_87 {Γ : gb_X} {dR : Nat} {sh : List gb_Sh} {out : gb_G × Int32} {R_X8_readSum : gb_G → Int32 → Option (gb_G × Int32)} {R_X8_readTest : gb_G → Int32 → Option (gb_G × Int32)} (hS : gb_S sh) (hR_X8_readSum : ∀ (g : gb_G) (x : Int32) {o : gb_G × Int32}, R_X8_readSum g x = some o → gb_C Γ M_X8_readSum dR 0 0 sh g [.ref 45, .int x] (gb_Ri sh o)) (hR_X8_readTest : ∀ (g : gb_G) (x : Int32) {o : gb_G × Int32}, R_X8_readTest g x = some o → gb_C Γ M_X8_readTest dR 0 0 sh g [.ref 45, .int x] (gb_Ri sh o)) {K155 : gb_G → Int32 → Int32 → Option (gb_G × Int32)} (hK155 : ∀ (g : gb_G) (y2 : Int32) (y3 : Int32), K155 g y2 y3 = some out → gb_J Γ M_X8_readPlain (dR + 8) (gb_Ri sh out) 0 0 sh g 155 [(0, .ref 45), (2, .int y2), (3, .int y3)] []) : ∀ (g : gb_G) (y2 : Int32) (z0 : Int32), f_X8_readPlain_87 sh R_X8_readSum R_X8_readTest K155 g y2 z0 = some out → gb_J Γ M_X8_readPlain (dR + 8) (gb_Ri sh out) 0 0 sh g 87 [(0, .ref 45), (2, .int y2)] [.int z0] := by
  intro g y2 z0 h
  unfold f_X8_readPlain_87 at h
  refine gb_istore_n [(3, .int z0), (0, .ref 45), (2, .int y2)] d_X8_readPlain_87 (Nat.le_of_ble_eq_true rfl) rfl ?_
  refine gb_goto 155 d_X8_readPlain_88 (by decide) ?_
  refine gb_pick (lv' := [(0, .ref 45), (2, .int y2), (3, .int z0)]) [1, 2, 0] rfl ?_
  exact hK155 _ y2 z0 h
set_option maxRecDepth 100000 in
set_option maxHeartbeats 4000000 in
theorem t_X8_readPlain_36 {Γ : gb_X} {dR : Nat} {sh : List gb_Sh} {out : gb_G × Int32} {R_X8_readSum : gb_G → Int32 → Option (gb_G × Int32)} {R_X8_readTest : gb_G → Int32 → Option (gb_G × Int32)} (hS : gb_S sh) (hR_X8_readSum : ∀ (g : gb_G) (x : Int32) {o : gb_G × Int32}, R_X8_readSum g x = some o → gb_C Γ M_X8_readSum dR 0 0 sh g [.ref 45, .int x] (gb_Ri sh o)) (hR_X8_readTest : ∀ (g : gb_G) (x : Int32) {o : gb_G × Int32}, R_X8_readTest g x = some o → gb_C Γ M_X8_readTest dR 0 0 sh g [.ref 45, .int x] (gb_Ri sh o)) : ∀ (g : gb_G) (y1 : Int32) (y2 : Int32), f_X8_readPlain_36 sh R_X8_readSum R_X8_readTest g y1 y2 = some out → gb_J Γ M_X8_readPlain (dR + 8) (gb_Ri sh out) 0 0 sh g 36 [(0, .ref 45), (1, .int y1), (2, .int y2)] [] := by
  intro g y1 y2 h
  unfold f_X8_readPlain_36 at h
  refine gb_aload_n d_X8_readPlain_36 rfl ?_
  refine gb_getr (r := 43) f_X8_26 (hS 45 _ rfl) rfl d_X8_readPlain_37 ?_
  refine gb_bipush 40 d_X8_readPlain_40 rfl ?_
  obtain ⟨r1, e2, h⟩ := gb_bd_e h
  refine gb_cVi (As := [.int 40]) (rest := []) m_X8_95 (t_X9_isSign (Γ := Γ) hS e2) (hS 43 _ rfl) rfl (by omega) rfl rfl (Nat.le_of_ble_eq_true rfl) d_X8_readPlain_42 ?_
  refine gb_if_eq 91 d_X8_readPlain_45 (by decide) (fun hc => ?_) (fun hc => ?_)
  · have h := gb_it hc h
    refine gb_aload_n d_X8_readPlain_91 rfl ?_
    refine gb_iload_n d_X8_readPlain_92 rfl ?_
    obtain ⟨r3, e4, h⟩ := gb_bd_e h
    refine gb_cVi (As := [.int y1]) (rest := []) m_X8_70 (hR_X8_readSum _ y1 e4) (hS 45 _ rfl) rfl (by omega) rfl rfl (Nat.le_of_ble_eq_true rfl) d_X8_readPlain_93 ?_
    refine gb_istore_n [(3, .int r3.2), (0, .ref 45), (1, .int y1), (2, .int y2)] d_X8_readPlain_96 (Nat.le_of_ble_eq_true rfl) rfl ?_
    refine gb_aload_n d_X8_readPlain_97 rfl ?_
    refine gb_getr (r := 43) f_X8_26 (hS 45 _ rfl) rfl d_X8_readPlain_98 ?_
    refine gb_ldcS 8 rfl d_X8_readPlain_101 ?_
    obtain ⟨r5, e6, h⟩ := gb_bd_e h
    refine gb_cVi (As := [.retAddr (2 + 8)]) (rest := []) m_X8_130 (t_X9_signIn (Γ := Γ) hS (by decide) e6) (hS 43 _ rfl) rfl (by omega) rfl rfl (Nat.le_of_ble_eq_true rfl) d_X8_readPlain_103 ?_
    refine gb_istore [(4, .int r5.2), (3, .int r3.2), (0, .ref 45), (1, .int y1), (2, .int y2)] d_X8_readPlain_106 (Nat.le_of_ble_eq_true rfl) rfl ?_
    refine gb_iload_n d_X8_readPlain_108 rfl ?_
    refine gb_if_eq 122 d_X8_readPlain_109 (by decide) (fun hc => ?_) (fun hc => ?_)
    · have h := gb_it hc h
      refine gb_iconst 0 d_X8_readPlain_122 rfl ?_
      refine gb_pick (lv' := [(0, .ref 45), (1, .int y1), (2, .int y2), (4, .int r5.2)]) [2, 3, 4, 0] rfl ?_
      exact t_X8_readPlain_123 hS hR_X8_readSum hR_X8_readTest (fun w w0 w1 hw => t_X8_readPlain_155 hS hR_X8_readSum hR_X8_readTest  w w0 w1 hw) _ y1 y2 r5.2 0 h
    · have h := gb_if hc h
      refine gb_iload d_X8_readPlain_112 rfl ?_
      refine gb_iconst (-1) d_X8_readPlain_114 rfl ?_
      refine gb_icmp_eq 122 d_X8_readPlain_115 (by decide) (fun hc => ?_) (fun hc => ?_)
      · have h := gb_it hc h
        refine gb_iconst 0 d_X8_readPlain_122 rfl ?_
        refine gb_pick (lv' := [(0, .ref 45), (1, .int y1), (2, .int y2), (4, .int r5.2)]) [2, 3, 4, 0] rfl ?_
        exact t_X8_readPlain_123 hS hR_X8_readSum hR_X8_readTest (fun w w0 w1 hw => t_X8_readPlain_155 hS hR_X8_readSum hR_X8_readTest  w w0 w1 hw) _ y1 y2 r5.2 0 h
      · have h := gb_if hc h
        refine gb_iconst 1 d_X8_readPlain_118 rfl ?_
        refine gb_goto 123 d_X8_readPlain_119 (by decide) ?_
        refine gb_pick (lv' := [(0, .ref 45), (1, .int y1), (2, .int y2), (4, .int r5.2)]) [2, 3, 4, 0] rfl ?_
        exact t_X8_readPlain_123 hS hR_X8_readSum hR_X8_readTest (fun w w0 w1 hw => t_X8_readPlain_155 hS hR_X8_readSum hR_X8_readTest  w w0 w1 hw) _ y1 y2 r5.2 1 h
  · have h := gb_if hc h
    refine gb_iload_n d_X8_readPlain_48 rfl ?_
    refine gb_bipush 8 d_X8_readPlain_49 rfl ?_
    refine gb_icmp_ge 86 d_X8_readPlain_51 (by decide) (fun hc => ?_) (fun hc => ?_)
    · have h := gb_it hc h
      refine gb_iconst 0 d_X8_readPlain_86 rfl ?_
      refine gb_pick (lv' := [(0, .ref 45), (2, .int y2)]) [0, 2] rfl ?_
      exact t_X8_readPlain_87 hS hR_X8_readSum hR_X8_readTest (fun w w0 w1 hw => t_X8_readPlain_155 hS hR_X8_readSum hR_X8_readTest  w w0 w1 hw) _ y2 0 h
    · have h := gb_if hc h
      refine gb_aload_n d_X8_readPlain_54 rfl ?_
      refine gb_bipush 40 d_X8_readPlain_55 rfl ?_
      obtain ⟨r17, e18, h⟩ := gb_bd_e h
      refine gb_cVi (As := [.int 40]) (rest := []) m_X8_42 (t_X8_readSign (Γ := Γ) hS e18) (hS 45 _ rfl) rfl (by omega) rfl rfl (Nat.le_of_ble_eq_true rfl) d_X8_readPlain_57 ?_
      refine gb_if_eq 86 d_X8_readPlain_60 (by decide) (fun hc => ?_) (fun hc => ?_)
      · have h := gb_it hc h
        refine gb_iconst 0 d_X8_readPlain_86 rfl ?_
        refine gb_pick (lv' := [(0, .ref 45), (2, .int y2)]) [0, 2] rfl ?_
        exact t_X8_readPlain_87 hS hR_X8_readSum hR_X8_readTest (fun w w0 w1 hw => t_X8_readPlain_155 hS hR_X8_readSum hR_X8_readTest  w w0 w1 hw) _ y2 0 h
      · have h := gb_if hc h
        refine gb_aload_n d_X8_readPlain_63 rfl ?_
        refine gb_iload_n d_X8_readPlain_64 rfl ?_
        refine gb_iconst 1 d_X8_readPlain_65 rfl ?_
        refine gb_iadd d_X8_readPlain_66 ?_
        obtain ⟨r19, e20, h⟩ := gb_bd_e h
        refine gb_cVi (As := [.int (y1 + 1)]) (rest := []) m_X8_89 (hR_X8_readTest _ (y1 + 1) e20) (hS 45 _ rfl) rfl (by omega) rfl rfl (Nat.le_of_ble_eq_true rfl) d_X8_readPlain_67 ?_
        refine gb_if_eq 86 d_X8_readPlain_70 (by decide) (fun hc => ?_) (fun hc => ?_)
        · have h := gb_it hc h
          refine gb_iconst 0 d_X8_readPlain_86 rfl ?_
          refine gb_pick (lv' := [(0, .ref 45), (2, .int y2)]) [0, 2] rfl ?_
          exact t_X8_readPlain_87 hS hR_X8_readSum hR_X8_readTest (fun w w0 w1 hw => t_X8_readPlain_155 hS hR_X8_readSum hR_X8_readTest  w w0 w1 hw) _ y2 0 h
        · have h := gb_if hc h
          refine gb_aload_n d_X8_readPlain_73 rfl ?_
          refine gb_bipush 41 d_X8_readPlain_74 rfl ?_
          obtain ⟨r21, e22, h⟩ := gb_bd_e h
          refine gb_cVi (As := [.int 41]) (rest := []) m_X8_42 (t_X8_readSign (Γ := Γ) hS e22) (hS 45 _ rfl) rfl (by omega) rfl rfl (Nat.le_of_ble_eq_true rfl) d_X8_readPlain_76 ?_
          refine gb_if_eq 86 d_X8_readPlain_79 (by decide) (fun hc => ?_) (fun hc => ?_)
          · have h := gb_it hc h
            refine gb_iconst 0 d_X8_readPlain_86 rfl ?_
            refine gb_pick (lv' := [(0, .ref 45), (2, .int y2)]) [0, 2] rfl ?_
            exact t_X8_readPlain_87 hS hR_X8_readSum hR_X8_readTest (fun w w0 w1 hw => t_X8_readPlain_155 hS hR_X8_readSum hR_X8_readTest  w w0 w1 hw) _ y2 0 h
          · have h := gb_if hc h
            refine gb_iconst 1 d_X8_readPlain_82 rfl ?_
            refine gb_goto 87 d_X8_readPlain_83 (by decide) ?_
            refine gb_pick (lv' := [(0, .ref 45), (2, .int y2)]) [0, 2] rfl ?_
            exact t_X8_readPlain_87 hS hR_X8_readSum hR_X8_readTest (fun w w0 w1 hw => t_X8_readPlain_155 hS hR_X8_readSum hR_X8_readTest  w w0 w1 hw) _ y2 1 h
set_option maxRecDepth 100000 in
set_option maxHeartbeats 4000000 in
theorem t_X8_readPlain_29 {Γ : gb_X} {dR : Nat} {sh : List gb_Sh} {out : gb_G × Int32} {R_X8_readSum : gb_G → Int32 → Option (gb_G × Int32)} {R_X8_readTest : gb_G → Int32 → Option (gb_G × Int32)} (hS : gb_S sh) (hR_X8_readSum : ∀ (g : gb_G) (x : Int32) {o : gb_G × Int32}, R_X8_readSum g x = some o → gb_C Γ M_X8_readSum dR 0 0 sh g [.ref 45, .int x] (gb_Ri sh o)) (hR_X8_readTest : ∀ (g : gb_G) (x : Int32) {o : gb_G × Int32}, R_X8_readTest g x = some o → gb_C Γ M_X8_readTest dR 0 0 sh g [.ref 45, .int x] (gb_Ri sh o)) {K4 : gb_G → Int32 → Int32 → Int32 → Option (gb_G × Int32)} (hK4 : ∀ (g : gb_G) (y1 : Int32) (y2 : Int32) (y3 : Int32), K4 g y1 y2 y3 = some out → gb_J Γ M_X8_readPlain (dR + 8) (gb_Ri sh out) 0 0 sh g 4 [(0, .ref 45), (1, .int y1), (2, .int y2), (3, .int y3)] []) : ∀ (g : gb_G) (y1 : Int32) (y3 : Int32) (z0 : Int32), f_X8_readPlain_29 sh R_X8_readSum R_X8_readTest K4 g y1 y3 z0 = some out → gb_J Γ M_X8_readPlain (dR + 8) (gb_Ri sh out) 0 0 sh g 29 [(0, .ref 45), (1, .int y1), (3, .int y3)] [.int z0] := by
  intro g y1 y3 z0 h
  unfold f_X8_readPlain_29 at h
  refine gb_istore_n [(2, .int z0), (0, .ref 45), (1, .int y1), (3, .int y3)] d_X8_readPlain_29 (Nat.le_of_ble_eq_true rfl) rfl ?_
  refine gb_iinc (y3 + 1) [(3, .int (y3 + 1)), (2, .int z0), (0, .ref 45), (1, .int y1)] d_X8_readPlain_30 (Nat.le_of_ble_eq_true rfl) rfl rfl rfl ?_
  refine gb_goto 4 d_X8_readPlain_33 (by decide) ?_
  refine gb_pick (lv' := [(0, .ref 45), (1, .int y1), (2, .int z0), (3, .int (y3 + 1))]) [2, 3, 1, 0] rfl ?_
  exact hK4 _ y1 z0 (y3 + 1) h
set_option maxRecDepth 100000 in
set_option maxHeartbeats 4000000 in
theorem t_X8_readPlain_4 {Γ : gb_X} {dR : Nat} {sh : List gb_Sh} {out : gb_G × Int32} {R_X8_readSum : gb_G → Int32 → Option (gb_G × Int32)} {R_X8_readTest : gb_G → Int32 → Option (gb_G × Int32)} (hS : gb_S sh) (hR_X8_readSum : ∀ (g : gb_G) (x : Int32) {o : gb_G × Int32}, R_X8_readSum g x = some o → gb_C Γ M_X8_readSum dR 0 0 sh g [.ref 45, .int x] (gb_Ri sh o)) (hR_X8_readTest : ∀ (g : gb_G) (x : Int32) {o : gb_G × Int32}, R_X8_readTest g x = some o → gb_C Γ M_X8_readTest dR 0 0 sh g [.ref 45, .int x] (gb_Ri sh o)) : ∀ (n : Nat) (g : gb_G) (y1 : Int32) (y2 : Int32) (y3 : Int32), f_X8_readPlain_4 sh R_X8_readSum R_X8_readTest n g y1 y2 y3 = some out → gb_J Γ M_X8_readPlain (dR + 8) (gb_Ri sh out) 0 0 sh g 4 [(0, .ref 45), (1, .int y1), (2, .int y2), (3, .int y3)] [] := by
  intro n
  induction n with
  | zero => intro g y1 y2 y3 h; cases h
  | succ n ih =>
    intro g y1 y2 y3 h
    rw [f_X8_readPlain_4] at h
    refine gb_iload_n d_X8_readPlain_4 rfl ?_
    refine gb_sipush 400 d_X8_readPlain_5 rfl ?_
    refine gb_icmp_ge 36 d_X8_readPlain_8 (by decide) (fun hc => ?_) (fun hc => ?_)
    · have h := gb_it hc h
      refine gb_pick (lv' := [(0, .ref 45), (1, .int y1), (2, .int y2)]) [0, 1, 2] rfl ?_
      exact t_X8_readPlain_36 hS hR_X8_readSum hR_X8_readTest  _ y1 y2 h
    · have h := gb_if hc h
      refine gb_aload_n d_X8_readPlain_11 rfl ?_
      refine gb_ldcS 7 rfl d_X8_readPlain_12 ?_
      obtain ⟨r23, e24, h⟩ := gb_bd_e h
      refine gb_cVi (As := [.retAddr (2 + 7)]) (rest := []) m_X8_78 (t_X8_readKeyword (Γ := Γ) hS (by decide) e24) (hS 45 _ rfl) rfl (by omega) rfl rfl (Nat.le_of_ble_eq_true rfl) d_X8_readPlain_14 ?_
      refine gb_if_eq 36 d_X8_readPlain_17 (by decide) (fun hc => ?_) (fun hc => ?_)
      · have h := gb_it hc h
        refine gb_pick (lv' := [(0, .ref 45), (1, .int y1), (2, .int y2)]) [0, 1, 2] rfl ?_
        exact t_X8_readPlain_36 hS hR_X8_readSum hR_X8_readTest  _ y1 y2 h
      · have h := gb_if hc h
        refine gb_iload_n d_X8_readPlain_20 rfl ?_
        refine gb_if_ne 28 d_X8_readPlain_21 (by decide) (fun hc => ?_) (fun hc => ?_)
        · have h := gb_if hc h
          refine gb_iconst 0 d_X8_readPlain_28 rfl ?_
          refine gb_pick (lv' := [(0, .ref 45), (1, .int y1), (3, .int y3)]) [0, 1, 3] rfl ?_
          exact t_X8_readPlain_29 hS hR_X8_readSum hR_X8_readTest (fun w w0 w1 w2 hw => ih w w0 w1 w2 hw) _ y1 y3 0 h
        · have h := gb_it hc h
          refine gb_iconst 1 d_X8_readPlain_24 rfl ?_
          refine gb_goto 29 d_X8_readPlain_25 (by decide) ?_
          refine gb_pick (lv' := [(0, .ref 45), (1, .int y1), (3, .int y3)]) [0, 1, 3] rfl ?_
          exact t_X8_readPlain_29 hS hR_X8_readSum hR_X8_readTest (fun w w0 w1 w2 hw => ih w w0 w1 w2 hw) _ y1 y3 1 h
set_option maxRecDepth 100000 in
set_option maxHeartbeats 4000000 in
theorem t_X8_readPlain {Γ : gb_X} {dR : Nat} {sh : List gb_Sh} {x1 : Int32} {out : gb_G × Int32} {R_X8_readSum : gb_G → Int32 → Option (gb_G × Int32)} {R_X8_readTest : gb_G → Int32 → Option (gb_G × Int32)} (hS : gb_S sh) (hR_X8_readSum : ∀ (g : gb_G) (x : Int32) {o : gb_G × Int32}, R_X8_readSum g x = some o → gb_C Γ M_X8_readSum dR 0 0 sh g [.ref 45, .int x] (gb_Ri sh o)) (hR_X8_readTest : ∀ (g : gb_G) (x : Int32) {o : gb_G × Int32}, R_X8_readTest g x = some o → gb_C Γ M_X8_readTest dR 0 0 sh g [.ref 45, .int x] (gb_Ri sh o)) {g : gb_G} (h : f_X8_readPlain sh R_X8_readSum R_X8_readTest g x1 = some out) : gb_C Γ M_X8_readPlain (dR + 8) 0 0 sh g [.ref 45, .int x1] (gb_Ri sh out) := by
  refine gb_C.of rfl (Nat.le_of_ble_eq_true rfl) ?_
  refine gb_pick (lv' := [(0, .ref 45), (1, .int x1)]) [0, 1] rfl ?_
  unfold f_X8_readPlain at h
  refine gb_iconst 0 d_X8_readPlain_0 rfl ?_
  refine gb_istore_n [(2, .int 0), (0, .ref 45), (1, .int x1)] d_X8_readPlain_1 (Nat.le_of_ble_eq_true rfl) rfl ?_
  refine gb_iconst 0 d_X8_readPlain_2 rfl ?_
  refine gb_istore_n [(3, .int 0), (2, .int 0), (0, .ref 45), (1, .int x1)] d_X8_readPlain_3 (Nat.le_of_ble_eq_true rfl) rfl ?_
  refine gb_pick (lv' := [(0, .ref 45), (1, .int x1), (2, .int 0), (3, .int 0)]) [2, 3, 1, 0] rfl ?_
  exact t_X8_readPlain_4 hS hR_X8_readSum hR_X8_readTest  gb_N _ x1 0 0 h
-- X8_readBoth
noncomputable def f_X8_readBoth_8 (sh : List gb_Sh) (R_X8_readPlain : gb_G → Int32 → Option (gb_G × Int32)) : Nat → gb_G → Int32 → Int32 → Int32 → Option (gb_G × Int32)
  | 0, _, _, _, _ => none
  | n + 1, g, y1, y2, y3 => if 400 ≤ y3 then (gb_bo y2 (some (g, y2))) else (if y2 = 0 then (gb_bo y2 (some (g, y2))) else (gb_bd (f_X8_readKeyword sh g 6) (fun r5 => if r5.2 = 0 then (gb_bo y2 (some (r5.1, y2))) else (gb_bd (f_X7_emit sh r5.1 46 4 0) (fun r8 => gb_bd (R_X8_readPlain r8.1 y1) (fun r10 => gb_bd (f_X7_aimHere sh r10.1 46 r8.2) (fun r12 => f_X8_readBoth_8 sh R_X8_readPlain n r12 y1 r10.2 (y3 + 1))))))))
noncomputable def f_X8_readBoth (sh : List gb_Sh) (R_X8_readPlain : gb_G → Int32 → Option (gb_G × Int32)) (g : gb_G) (x1 : Int32) : Option (gb_G × Int32) := gb_bd (R_X8_readPlain g x1) (fun r1 => f_X8_readBoth_8 sh R_X8_readPlain gb_N r1.1 x1 r1.2 0)
set_option maxRecDepth 100000 in
set_option maxHeartbeats 4000000 in
theorem t_X8_readBoth_8 {Γ : gb_X} {dR : Nat} {sh : List gb_Sh} {out : gb_G × Int32} {R_X8_readPlain : gb_G → Int32 → Option (gb_G × Int32)} (hS : gb_S sh) (hR_X8_readPlain : ∀ (g : gb_G) (x : Int32) {o : gb_G × Int32}, R_X8_readPlain g x = some o → gb_C Γ M_X8_readPlain dR 0 0 sh g [.ref 45, .int x] (gb_Ri sh o)) : ∀ (n : Nat) (g : gb_G) (y1 : Int32) (y2 : Int32) (y3 : Int32), f_X8_readBoth_8 sh R_X8_readPlain n g y1 y2 y3 = some out → gb_J Γ M_X8_readBoth (dR + 8) (gb_Ri sh out) 0 0 sh g 8 [(0, .ref 45), (1, .int y1), (2, .int y2), (3, .int y3)] [] := by
  intro n
  induction n with
  | zero => intro g y1 y2 y3 h; cases h
  | succ n ih =>
    intro g y1 y2 y3 h
    rw [f_X8_readBoth_8] at h
    refine gb_iload_n d_X8_readBoth_8 rfl ?_
    refine gb_sipush 400 d_X8_readBoth_9 rfl ?_
    refine gb_icmp_ge 60 d_X8_readBoth_12 (by decide) (fun hc => ?_) (fun hc => ?_)
    · have h := gb_it hc h
      refine gb_iload_n d_X8_readBoth_60 rfl ?_
      obtain ⟨hb3, h⟩ := gb_bo_e h
      cases h
      exact gb_zret d_X8_readBoth_61 rfl hb3 ⟨rfl, rfl, rfl⟩
    · have h := gb_if hc h
      refine gb_iload_n d_X8_readBoth_15 rfl ?_
      refine gb_if_eq 60 d_X8_readBoth_16 (by decide) (fun hc => ?_) (fun hc => ?_)
      · have h := gb_it hc h
        refine gb_iload_n d_X8_readBoth_60 rfl ?_
        obtain ⟨hb4, h⟩ := gb_bo_e h
        cases h
        exact gb_zret d_X8_readBoth_61 rfl hb4 ⟨rfl, rfl, rfl⟩
      · have h := gb_if hc h
        refine gb_aload_n d_X8_readBoth_19 rfl ?_
        refine gb_ldcS 6 rfl d_X8_readBoth_20 ?_
        obtain ⟨r5, e6, h⟩ := gb_bd_e h
        refine gb_cVi (As := [.retAddr (2 + 6)]) (rest := []) m_X8_78 (t_X8_readKeyword (Γ := Γ) hS (by decide) e6) (hS 45 _ rfl) rfl (by omega) rfl rfl (Nat.le_of_ble_eq_true rfl) d_X8_readBoth_22 ?_
        refine gb_if_eq 60 d_X8_readBoth_25 (by decide) (fun hc => ?_) (fun hc => ?_)
        · have h := gb_it hc h
          refine gb_iload_n d_X8_readBoth_60 rfl ?_
          obtain ⟨hb7, h⟩ := gb_bo_e h
          cases h
          exact gb_zret d_X8_readBoth_61 rfl hb7 ⟨rfl, rfl, rfl⟩
        · have h := gb_if hc h
          refine gb_aload_n d_X8_readBoth_28 rfl ?_
          refine gb_getr (r := 46) f_X8_12 (hS 45 _ rfl) rfl d_X8_readBoth_29 ?_
          refine gb_iconst 4 d_X8_readBoth_32 rfl ?_
          refine gb_iconst 0 d_X8_readBoth_33 rfl ?_
          obtain ⟨r8, e9, h⟩ := gb_bd_e h
          refine gb_cVi (As := [.int 4, .int 0]) (rest := []) m_X8_114 (t_X7_emit (Γ := Γ) hS (ok_X7_46 hS) e9) (ok_X7_46 hS).1 rfl (by omega) rfl rfl (Nat.le_of_ble_eq_true rfl) d_X8_readBoth_34 ?_
          refine gb_istore [(4, .int r8.2), (0, .ref 45), (1, .int y1), (2, .int y2), (3, .int y3)] d_X8_readBoth_37 (Nat.le_of_ble_eq_true rfl) rfl ?_
          refine gb_aload_n d_X8_readBoth_39 rfl ?_
          refine gb_iload_n d_X8_readBoth_40 rfl ?_
          obtain ⟨r10, e11, h⟩ := gb_bd_e h
          refine gb_cVi (As := [.int y1]) (rest := []) m_X8_121 (hR_X8_readPlain _ y1 e11) (hS 45 _ rfl) rfl (by omega) rfl rfl (Nat.le_of_ble_eq_true rfl) d_X8_readBoth_41 ?_
          refine gb_istore_n [(2, .int r10.2), (4, .int r8.2), (0, .ref 45), (1, .int y1), (3, .int y3)] d_X8_readBoth_44 (Nat.le_of_ble_eq_true rfl) rfl ?_
          refine gb_aload_n d_X8_readBoth_45 rfl ?_
          refine gb_getr (r := 46) f_X8_12 (hS 45 _ rfl) rfl d_X8_readBoth_46 ?_
          refine gb_iload d_X8_readBoth_49 rfl ?_
          obtain ⟨r12, e13, h⟩ := gb_bd_e h
          refine gb_cVv (As := [.int r8.2]) (rest := []) m_X8_118 (t_X7_aimHere (Γ := Γ) hS (ok_X7_46 hS) e13) (ok_X7_46 hS).1 rfl (by omega) rfl rfl (Nat.le_of_ble_eq_true rfl) d_X8_readBoth_51 ?_
          refine gb_iinc (y3 + 1) [(3, .int (y3 + 1)), (2, .int r10.2), (4, .int r8.2), (0, .ref 45), (1, .int y1)] d_X8_readBoth_54 (Nat.le_of_ble_eq_true rfl) rfl rfl rfl ?_
          refine gb_goto 8 d_X8_readBoth_57 (by decide) ?_
          refine gb_pick (lv' := [(0, .ref 45), (1, .int y1), (2, .int r10.2), (3, .int (y3 + 1))]) [3, 4, 1, 0] rfl ?_
          exact ih _ y1 r10.2 (y3 + 1) h
set_option maxRecDepth 100000 in
set_option maxHeartbeats 4000000 in
theorem t_X8_readBoth {Γ : gb_X} {dR : Nat} {sh : List gb_Sh} {x1 : Int32} {out : gb_G × Int32} {R_X8_readPlain : gb_G → Int32 → Option (gb_G × Int32)} (hS : gb_S sh) (hR_X8_readPlain : ∀ (g : gb_G) (x : Int32) {o : gb_G × Int32}, R_X8_readPlain g x = some o → gb_C Γ M_X8_readPlain dR 0 0 sh g [.ref 45, .int x] (gb_Ri sh o)) {g : gb_G} (h : f_X8_readBoth sh R_X8_readPlain g x1 = some out) : gb_C Γ M_X8_readBoth (dR + 8) 0 0 sh g [.ref 45, .int x1] (gb_Ri sh out) := by
  refine gb_C.of rfl (Nat.le_of_ble_eq_true rfl) ?_
  refine gb_pick (lv' := [(0, .ref 45), (1, .int x1)]) [0, 1] rfl ?_
  unfold f_X8_readBoth at h
  refine gb_aload_n d_X8_readBoth_0 rfl ?_
  refine gb_iload_n d_X8_readBoth_1 rfl ?_
  obtain ⟨r1, e2, h⟩ := gb_bd_e h
  refine gb_cVi (As := [.int x1]) (rest := []) m_X8_121 (hR_X8_readPlain _ x1 e2) (hS 45 _ rfl) rfl (by omega) rfl rfl (Nat.le_of_ble_eq_true rfl) d_X8_readBoth_2 ?_
  refine gb_istore_n [(2, .int r1.2), (0, .ref 45), (1, .int x1)] d_X8_readBoth_5 (Nat.le_of_ble_eq_true rfl) rfl ?_
  refine gb_iconst 0 d_X8_readBoth_6 rfl ?_
  refine gb_istore_n [(3, .int 0), (2, .int r1.2), (0, .ref 45), (1, .int x1)] d_X8_readBoth_7 (Nat.le_of_ble_eq_true rfl) rfl ?_
  refine gb_pick (lv' := [(0, .ref 45), (1, .int x1), (2, .int r1.2), (3, .int 0)]) [2, 3, 1, 0] rfl ?_
  exact t_X8_readBoth_8 hS hR_X8_readPlain  gb_N _ x1 r1.2 0 h
-- X8_readTest
noncomputable def f_X8_readTest_8 (sh : List gb_Sh) (R_X8_readBoth : gb_G → Int32 → Option (gb_G × Int32)) : Nat → gb_G → Int32 → Int32 → Int32 → Option (gb_G × Int32)
  | 0, _, _, _, _ => none
  | n + 1, g, y1, y2, y3 => if 400 ≤ y3 then (gb_bo y2 (some (g, y2))) else (if y2 = 0 then (gb_bo y2 (some (g, y2))) else (gb_bd (f_X8_readKeyword sh g 5) (fun r5 => if r5.2 = 0 then (gb_bo y2 (some (r5.1, y2))) else (gb_bd (f_X7_emit sh r5.1 46 3 0) (fun r8 => gb_bd (R_X8_readBoth r8.1 y1) (fun r10 => gb_bd (f_X7_aimHere sh r10.1 46 r8.2) (fun r12 => f_X8_readTest_8 sh R_X8_readBoth n r12 y1 r10.2 (y3 + 1))))))))
noncomputable def f_X8_readTest (sh : List gb_Sh) (R_X8_readBoth : gb_G → Int32 → Option (gb_G × Int32)) (g : gb_G) (x1 : Int32) : Option (gb_G × Int32) := gb_bd (R_X8_readBoth g x1) (fun r1 => f_X8_readTest_8 sh R_X8_readBoth gb_N r1.1 x1 r1.2 0)
set_option maxRecDepth 100000 in
set_option maxHeartbeats 4000000 in
theorem t_X8_readTest_8 {Γ : gb_X} {dR : Nat} {sh : List gb_Sh} {out : gb_G × Int32} {R_X8_readBoth : gb_G → Int32 → Option (gb_G × Int32)} (hS : gb_S sh) (hR_X8_readBoth : ∀ (g : gb_G) (x : Int32) {o : gb_G × Int32}, R_X8_readBoth g x = some o → gb_C Γ M_X8_readBoth dR 0 0 sh g [.ref 45, .int x] (gb_Ri sh o)) : ∀ (n : Nat) (g : gb_G) (y1 : Int32) (y2 : Int32) (y3 : Int32), f_X8_readTest_8 sh R_X8_readBoth n g y1 y2 y3 = some out → gb_J Γ M_X8_readTest (dR + 8) (gb_Ri sh out) 0 0 sh g 8 [(0, .ref 45), (1, .int y1), (2, .int y2), (3, .int y3)] [] := by
  intro n
  induction n with
  | zero => intro g y1 y2 y3 h; cases h
  | succ n ih =>
    intro g y1 y2 y3 h
    rw [f_X8_readTest_8] at h
    refine gb_iload_n d_X8_readTest_8 rfl ?_
    refine gb_sipush 400 d_X8_readTest_9 rfl ?_
    refine gb_icmp_ge 60 d_X8_readTest_12 (by decide) (fun hc => ?_) (fun hc => ?_)
    · have h := gb_it hc h
      refine gb_iload_n d_X8_readTest_60 rfl ?_
      obtain ⟨hb3, h⟩ := gb_bo_e h
      cases h
      exact gb_zret d_X8_readTest_61 rfl hb3 ⟨rfl, rfl, rfl⟩
    · have h := gb_if hc h
      refine gb_iload_n d_X8_readTest_15 rfl ?_
      refine gb_if_eq 60 d_X8_readTest_16 (by decide) (fun hc => ?_) (fun hc => ?_)
      · have h := gb_it hc h
        refine gb_iload_n d_X8_readTest_60 rfl ?_
        obtain ⟨hb4, h⟩ := gb_bo_e h
        cases h
        exact gb_zret d_X8_readTest_61 rfl hb4 ⟨rfl, rfl, rfl⟩
      · have h := gb_if hc h
        refine gb_aload_n d_X8_readTest_19 rfl ?_
        refine gb_ldcS 5 rfl d_X8_readTest_20 ?_
        obtain ⟨r5, e6, h⟩ := gb_bd_e h
        refine gb_cVi (As := [.retAddr (2 + 5)]) (rest := []) m_X8_78 (t_X8_readKeyword (Γ := Γ) hS (by decide) e6) (hS 45 _ rfl) rfl (by omega) rfl rfl (Nat.le_of_ble_eq_true rfl) d_X8_readTest_22 ?_
        refine gb_if_eq 60 d_X8_readTest_25 (by decide) (fun hc => ?_) (fun hc => ?_)
        · have h := gb_it hc h
          refine gb_iload_n d_X8_readTest_60 rfl ?_
          obtain ⟨hb7, h⟩ := gb_bo_e h
          cases h
          exact gb_zret d_X8_readTest_61 rfl hb7 ⟨rfl, rfl, rfl⟩
        · have h := gb_if hc h
          refine gb_aload_n d_X8_readTest_28 rfl ?_
          refine gb_getr (r := 46) f_X8_12 (hS 45 _ rfl) rfl d_X8_readTest_29 ?_
          refine gb_iconst 3 d_X8_readTest_32 rfl ?_
          refine gb_iconst 0 d_X8_readTest_33 rfl ?_
          obtain ⟨r8, e9, h⟩ := gb_bd_e h
          refine gb_cVi (As := [.int 3, .int 0]) (rest := []) m_X8_114 (t_X7_emit (Γ := Γ) hS (ok_X7_46 hS) e9) (ok_X7_46 hS).1 rfl (by omega) rfl rfl (Nat.le_of_ble_eq_true rfl) d_X8_readTest_34 ?_
          refine gb_istore [(4, .int r8.2), (0, .ref 45), (1, .int y1), (2, .int y2), (3, .int y3)] d_X8_readTest_37 (Nat.le_of_ble_eq_true rfl) rfl ?_
          refine gb_aload_n d_X8_readTest_39 rfl ?_
          refine gb_iload_n d_X8_readTest_40 rfl ?_
          obtain ⟨r10, e11, h⟩ := gb_bd_e h
          refine gb_cVi (As := [.int y1]) (rest := []) m_X8_109 (hR_X8_readBoth _ y1 e11) (hS 45 _ rfl) rfl (by omega) rfl rfl (Nat.le_of_ble_eq_true rfl) d_X8_readTest_41 ?_
          refine gb_istore_n [(2, .int r10.2), (4, .int r8.2), (0, .ref 45), (1, .int y1), (3, .int y3)] d_X8_readTest_44 (Nat.le_of_ble_eq_true rfl) rfl ?_
          refine gb_aload_n d_X8_readTest_45 rfl ?_
          refine gb_getr (r := 46) f_X8_12 (hS 45 _ rfl) rfl d_X8_readTest_46 ?_
          refine gb_iload d_X8_readTest_49 rfl ?_
          obtain ⟨r12, e13, h⟩ := gb_bd_e h
          refine gb_cVv (As := [.int r8.2]) (rest := []) m_X8_118 (t_X7_aimHere (Γ := Γ) hS (ok_X7_46 hS) e13) (ok_X7_46 hS).1 rfl (by omega) rfl rfl (Nat.le_of_ble_eq_true rfl) d_X8_readTest_51 ?_
          refine gb_iinc (y3 + 1) [(3, .int (y3 + 1)), (2, .int r10.2), (4, .int r8.2), (0, .ref 45), (1, .int y1)] d_X8_readTest_54 (Nat.le_of_ble_eq_true rfl) rfl rfl rfl ?_
          refine gb_goto 8 d_X8_readTest_57 (by decide) ?_
          refine gb_pick (lv' := [(0, .ref 45), (1, .int y1), (2, .int r10.2), (3, .int (y3 + 1))]) [3, 4, 1, 0] rfl ?_
          exact ih _ y1 r10.2 (y3 + 1) h
set_option maxRecDepth 100000 in
set_option maxHeartbeats 4000000 in
theorem t_X8_readTest {Γ : gb_X} {dR : Nat} {sh : List gb_Sh} {x1 : Int32} {out : gb_G × Int32} {R_X8_readBoth : gb_G → Int32 → Option (gb_G × Int32)} (hS : gb_S sh) (hR_X8_readBoth : ∀ (g : gb_G) (x : Int32) {o : gb_G × Int32}, R_X8_readBoth g x = some o → gb_C Γ M_X8_readBoth dR 0 0 sh g [.ref 45, .int x] (gb_Ri sh o)) {g : gb_G} (h : f_X8_readTest sh R_X8_readBoth g x1 = some out) : gb_C Γ M_X8_readTest (dR + 8) 0 0 sh g [.ref 45, .int x1] (gb_Ri sh out) := by
  refine gb_C.of rfl (Nat.le_of_ble_eq_true rfl) ?_
  refine gb_pick (lv' := [(0, .ref 45), (1, .int x1)]) [0, 1] rfl ?_
  unfold f_X8_readTest at h
  refine gb_aload_n d_X8_readTest_0 rfl ?_
  refine gb_iload_n d_X8_readTest_1 rfl ?_
  obtain ⟨r1, e2, h⟩ := gb_bd_e h
  refine gb_cVi (As := [.int x1]) (rest := []) m_X8_109 (hR_X8_readBoth _ x1 e2) (hS 45 _ rfl) rfl (by omega) rfl rfl (Nat.le_of_ble_eq_true rfl) d_X8_readTest_2 ?_
  refine gb_istore_n [(2, .int r1.2), (0, .ref 45), (1, .int x1)] d_X8_readTest_5 (Nat.le_of_ble_eq_true rfl) rfl ?_
  refine gb_iconst 0 d_X8_readTest_6 rfl ?_
  refine gb_istore_n [(3, .int 0), (2, .int r1.2), (0, .ref 45), (1, .int x1)] d_X8_readTest_7 (Nat.le_of_ble_eq_true rfl) rfl ?_
  refine gb_pick (lv' := [(0, .ref 45), (1, .int x1), (2, .int r1.2), (3, .int 0)]) [2, 3, 1, 0] rfl ?_
  exact t_X8_readTest_8 hS hR_X8_readBoth  gb_N _ x1 r1.2 0 h
-- X8_readTimes
noncomputable def f_X8_readTimes (sh : List gb_Sh) (g : gb_G) : Option (gb_G × Int32) := gb_bd (f_X9_number sh g) (fun r1 => gb_bd (f_X10_within sh r1.1 r1.2 1 20) (fun r3 => if r3.2 = 0 then (some (r3.1, 0)) else (gb_bd (f_X10_within sh r3.1 (r3.1.1 46 3) 0 11) (fun r5 => if r5.2 = 0 then (some (r5.1, 0)) else (gb_ck (r5.1.1 46 3) (gb_ln sh (46 + 4)) (gb_let (gb_pi r5.1 (46 + 4) ((r5.1.1 46 3).toNatClampNeg) r1.2) (fun g8 => gb_bd (f_X9_step sh g8) (fun r9 => some (r9, 1)))))))))
set_option maxRecDepth 100000 in
set_option maxHeartbeats 4000000 in
theorem t_X8_readTimes {Γ : gb_X} {sh : List gb_Sh} {out : gb_G × Int32} (hS : gb_S sh) {g : gb_G} (h : f_X8_readTimes sh g = some out) : gb_C Γ M_X8_readTimes 2 0 0 sh g [.ref 45] (gb_Ri sh out) := by
  refine gb_C.of rfl (Nat.le_of_ble_eq_true rfl) ?_
  refine gb_pick (lv' := [(0, .ref 45)]) [0] rfl ?_
  unfold f_X8_readTimes at h
  refine gb_aload_n d_X8_readTimes_0 rfl ?_
  refine gb_getr (r := 43) f_X8_26 (hS 45 _ rfl) rfl d_X8_readTimes_1 ?_
  obtain ⟨r1, e2, h⟩ := gb_bd_e h
  refine gb_cVi (As := []) (rest := []) m_X8_98 (t_X9_number (Γ := Γ) hS e2) (hS 43 _ rfl) rfl (Nat.le_of_ble_eq_true rfl) rfl rfl (Nat.le_of_ble_eq_true rfl) d_X8_readTimes_4 ?_
  refine gb_istore_n [(1, .int r1.2), (0, .ref 45)] d_X8_readTimes_7 (Nat.le_of_ble_eq_true rfl) rfl ?_
  refine gb_iload_n d_X8_readTimes_8 rfl ?_
  refine gb_iconst 1 d_X8_readTimes_9 rfl ?_
  refine gb_bipush 20 d_X8_readTimes_10 rfl ?_
  obtain ⟨r3, e4, h⟩ := gb_bd_e h
  refine gb_cSNi (As := [.int r1.2, .int 1, .int 20]) (rest := []) m_X8_102 (t_X10_within (Γ := Γ) hS e4) (Nat.le_of_ble_eq_true rfl) rfl rfl (Nat.le_of_ble_eq_true rfl) d_X8_readTimes_12 ?_
  refine gb_if_eq 34 d_X8_readTimes_15 (by decide) (fun hc => ?_) (fun hc => ?_)
  · have h := gb_it hc h
    refine gb_iconst 0 d_X8_readTimes_34 rfl ?_
    cases h
    exact gb_zret d_X8_readTimes_35 rfl rfl ⟨rfl, rfl, rfl⟩
  · have h := gb_if hc h
    refine gb_aload_n d_X8_readTimes_18 rfl ?_
    refine gb_getr (r := 46) f_X8_12 (hS 45 _ rfl) rfl d_X8_readTimes_19 ?_
    refine gb_geti f_X8_92 (ok_X7_46 hS).1 rfl d_X8_readTimes_22 ?_
    refine gb_iconst 0 d_X8_readTimes_25 rfl ?_
    refine gb_bipush 11 d_X8_readTimes_26 rfl ?_
    obtain ⟨r5, e6, h⟩ := gb_bd_e h
    refine gb_cSNi (As := [.int (r3.1.1 46 3), .int 0, .int 11]) (rest := []) m_X8_102 (t_X10_within (Γ := Γ) hS e6) (Nat.le_of_ble_eq_true rfl) rfl rfl (Nat.le_of_ble_eq_true rfl) d_X8_readTimes_28 ?_
    refine gb_if_ne 36 d_X8_readTimes_31 (by decide) (fun hc => ?_) (fun hc => ?_)
    · have h := gb_if hc h
      refine gb_aload_n d_X8_readTimes_36 rfl ?_
      refine gb_getr (r := 46) f_X8_12 (hS 45 _ rfl) rfl d_X8_readTimes_37 ?_
      refine gb_getr (r := (46 + 4)) f_X8_106 (ok_X7_46 hS).1 rfl d_X8_readTimes_40 ?_
      refine gb_aload_n d_X8_readTimes_43 rfl ?_
      refine gb_getr (r := 46) f_X8_12 (hS 45 _ rfl) rfl d_X8_readTimes_44 ?_
      refine gb_geti f_X8_92 (ok_X7_46 hS).1 rfl d_X8_readTimes_47 ?_
      refine gb_iload_n d_X8_readTimes_50 rfl ?_
      obtain ⟨hi7, h⟩ := gb_ck_e h
      refine gb_iast_ ((r5.1.1 46 3).toNatClampNeg) rfl (ok_X7_46 hS).2.2.2.2.1 hi7 d_X8_readTimes_51 ?_
      have h := gb_let_e h
      generalize gb_pi r5.1 (46 + 4) ((r5.1.1 46 3).toNatClampNeg) r1.2 = g8 at h ⊢
      refine gb_aload_n d_X8_readTimes_52 rfl ?_
      refine gb_getr (r := 43) f_X8_26 (hS 45 _ rfl) rfl d_X8_readTimes_53 ?_
      obtain ⟨r9, e10, h⟩ := gb_bd_e h
      refine gb_cVv (As := []) (rest := []) m_X8_63 (t_X9_step (Γ := Γ) hS e10) (hS 43 _ rfl) rfl (Nat.le_of_ble_eq_true rfl) rfl rfl (Nat.le_of_ble_eq_true rfl) d_X8_readTimes_56 ?_
      refine gb_iconst 1 d_X8_readTimes_59 rfl ?_
      cases h
      exact gb_zret d_X8_readTimes_60 rfl rfl ⟨rfl, rfl, rfl⟩
    · have h := gb_it hc h
      refine gb_iconst 0 d_X8_readTimes_34 rfl ?_
      cases h
      exact gb_zret d_X8_readTimes_35 rfl rfl ⟨rfl, rfl, rfl⟩
-- X8_readClause
noncomputable def f_RD (sh : List gb_Sh) : Nat → Nat → gb_G → Int32 → Option (gb_G × Int32)
  | 0, _, _, _ => none
  | n + 1, 0, g, x => f_X8_readSum sh (f_RD sh n 1) g x
  | n + 1, 1, g, x => f_X8_readTerm sh (f_RD sh n 2) g x
  | n + 1, 2, g, x => f_X8_readPart sh (f_RD sh n 0) g x
  | n + 1, 3, g, x => f_X8_readTest sh (f_RD sh n 4) g x
  | n + 1, 4, g, x => f_X8_readBoth sh (f_RD sh n 5) g x
  | n + 1, 5, g, x => f_X8_readPlain sh (f_RD sh n 0) (f_RD sh n 3) g x
  | _ + 1, _ + 6, _, _ => none
set_option maxRecDepth 100000 in
set_option maxHeartbeats 4000000 in
theorem t_RD {Γ : gb_X} {sh : List gb_Sh} (hS : gb_S sh) : ∀ n : Nat, (∀ (g : gb_G) (x : Int32) {o : gb_G × Int32}, f_RD sh n 0 g x = some o → gb_C Γ M_X8_readSum (8 * n) 0 0 sh g [.ref 45, .int x] (gb_Ri sh o)) ∧ (∀ (g : gb_G) (x : Int32) {o : gb_G × Int32}, f_RD sh n 1 g x = some o → gb_C Γ M_X8_readTerm (8 * n) 0 0 sh g [.ref 45, .int x] (gb_Ri sh o)) ∧ (∀ (g : gb_G) (x : Int32) {o : gb_G × Int32}, f_RD sh n 2 g x = some o → gb_C Γ M_X8_readPart (8 * n) 0 0 sh g [.ref 45, .int x] (gb_Ri sh o)) ∧ (∀ (g : gb_G) (x : Int32) {o : gb_G × Int32}, f_RD sh n 3 g x = some o → gb_C Γ M_X8_readTest (8 * n) 0 0 sh g [.ref 45, .int x] (gb_Ri sh o)) ∧ (∀ (g : gb_G) (x : Int32) {o : gb_G × Int32}, f_RD sh n 4 g x = some o → gb_C Γ M_X8_readBoth (8 * n) 0 0 sh g [.ref 45, .int x] (gb_Ri sh o)) ∧ (∀ (g : gb_G) (x : Int32) {o : gb_G × Int32}, f_RD sh n 5 g x = some o → gb_C Γ M_X8_readPlain (8 * n) 0 0 sh g [.ref 45, .int x] (gb_Ri sh o)) := by
  intro n
  induction n with
  | zero => exact ⟨fun g x o h => (nomatch h), fun g x o h => (nomatch h), fun g x o h => (nomatch h), fun g x o h => (nomatch h), fun g x o h => (nomatch h), fun g x o h => (nomatch h)⟩
  | succ n ih =>
    obtain ⟨ih0, ih1, ih2, ih3, ih4, ih5⟩ := ih
    refine ⟨fun g x o h => ?_, fun g x o h => ?_, fun g x o h => ?_, fun g x o h => ?_, fun g x o h => ?_, fun g x o h => ?_⟩
    · rw [f_RD] at h; exact t_X8_readSum (dR := 8 * n) hS (fun g x => ih1 g x) h
    · rw [f_RD] at h; exact t_X8_readTerm (dR := 8 * n) hS (fun g x => ih2 g x) h
    · rw [f_RD] at h; exact t_X8_readPart (dR := 8 * n) hS (fun g x => ih0 g x) h
    · rw [f_RD] at h; exact t_X8_readTest (dR := 8 * n) hS (fun g x => ih4 g x) h
    · rw [f_RD] at h; exact t_X8_readBoth (dR := 8 * n) hS (fun g x => ih5 g x) h
    · rw [f_RD] at h; exact t_X8_readPlain (dR := 8 * n) hS (fun g x => ih0 g x) (fun g x => ih3 g x) h
set_option maxRecDepth 100000 in
set_option maxHeartbeats 4000000 in
theorem t_X8_readSum_rec {Γ : gb_X} {sh : List gb_Sh} (hS : gb_S sh) {g : gb_G} {x : Int32} {o : gb_G × Int32} (h : f_RD sh 60 0 g x = some o) : gb_C Γ M_X8_readSum 480 0 0 sh g [.ref 45, .int x] (gb_Ri sh o) := (t_RD (Γ := Γ) hS 60).1 g x h
set_option maxRecDepth 100000 in
set_option maxHeartbeats 4000000 in
theorem t_X8_readTerm_rec {Γ : gb_X} {sh : List gb_Sh} (hS : gb_S sh) {g : gb_G} {x : Int32} {o : gb_G × Int32} (h : f_RD sh 60 1 g x = some o) : gb_C Γ M_X8_readTerm 480 0 0 sh g [.ref 45, .int x] (gb_Ri sh o) := (t_RD (Γ := Γ) hS 60).2.1 g x h
set_option maxRecDepth 100000 in
set_option maxHeartbeats 4000000 in
theorem t_X8_readPart_rec {Γ : gb_X} {sh : List gb_Sh} (hS : gb_S sh) {g : gb_G} {x : Int32} {o : gb_G × Int32} (h : f_RD sh 60 2 g x = some o) : gb_C Γ M_X8_readPart 480 0 0 sh g [.ref 45, .int x] (gb_Ri sh o) := (t_RD (Γ := Γ) hS 60).2.2.1 g x h
set_option maxRecDepth 100000 in
set_option maxHeartbeats 4000000 in
theorem t_X8_readTest_rec {Γ : gb_X} {sh : List gb_Sh} (hS : gb_S sh) {g : gb_G} {x : Int32} {o : gb_G × Int32} (h : f_RD sh 60 3 g x = some o) : gb_C Γ M_X8_readTest 480 0 0 sh g [.ref 45, .int x] (gb_Ri sh o) := (t_RD (Γ := Γ) hS 60).2.2.2.1 g x h
set_option maxRecDepth 100000 in
set_option maxHeartbeats 4000000 in
theorem t_X8_readBoth_rec {Γ : gb_X} {sh : List gb_Sh} (hS : gb_S sh) {g : gb_G} {x : Int32} {o : gb_G × Int32} (h : f_RD sh 60 4 g x = some o) : gb_C Γ M_X8_readBoth 480 0 0 sh g [.ref 45, .int x] (gb_Ri sh o) := (t_RD (Γ := Γ) hS 60).2.2.2.2.1 g x h
set_option maxRecDepth 100000 in
set_option maxHeartbeats 4000000 in
theorem t_X8_readPlain_rec {Γ : gb_X} {sh : List gb_Sh} (hS : gb_S sh) {g : gb_G} {x : Int32} {o : gb_G × Int32} (h : f_RD sh 60 5 g x = some o) : gb_C Γ M_X8_readPlain 480 0 0 sh g [.ref 45, .int x] (gb_Ri sh o) := (t_RD (Γ := Γ) hS 60).2.2.2.2.2 g x h
noncomputable def f_X8_readClause_150 (sh : List gb_Sh) (g : gb_G)  : Option (gb_G × Int32) := gb_bd (f_X7_endPiece sh g 46 2) (fun r13 => gb_let (gb_pi r13 46 3 ((r13.1 46 3) + 1)) (fun g15 => some (g15, 1)))
noncomputable def f_X8_readClause_131 (sh : List gb_Sh) (g : gb_G)  : Option (gb_G × Int32) := gb_bd (f_X8_readKeyword sh g 4) (fun r11 => if r11.2 = 0 then (f_X8_readClause_150 sh r11.1 ) else (gb_bd (f_RD sh 60 3 r11.1 0) (fun r16 => if r16.2 = 0 then (some (r16.1, 0)) else (f_X8_readClause_150 sh r16.1 ))))
noncomputable def f_X8_readClause_98 (sh : List gb_Sh) (g : gb_G)  : Option (gb_G × Int32) := gb_bd (f_X7_endPiece sh g 46 1) (fun r9 => if (r9.1 45 2) = 0 then (f_X8_readClause_131 sh r9 ) else (gb_bd (f_X8_readKeyword sh r9 3) (fun r18 => if r18.2 = 0 then (f_X8_readClause_131 sh r18.1 ) else (gb_bd (f_X8_readTimes sh r18.1) (fun r20 => if r20.2 = 0 then (some (r20.1, 0)) else (f_X8_readClause_131 sh r20.1 ))))))
noncomputable def f_X8_readClause_59 (sh : List gb_Sh) (g : gb_G) (y1 : Int32) : Option (gb_G × Int32) := gb_bd (f_X7_endPiece sh g 46 0) (fun r7 => if (r7.1 45 2) = 0 then (f_X8_readClause_98 sh r7 ) else (if y1 = 2 then (gb_bd (f_X8_readKeyword sh r7 2) (fun r22 => if r22.2 = 0 then (some (r22.1, 0)) else (gb_bd (f_RD sh 60 0 r22.1 0) (fun r24 => if r24.2 = 0 then (some (r24.1, 0)) else (f_X8_readClause_98 sh r24.1 ))))) else (f_X8_readClause_98 sh r7 )))
noncomputable def f_X8_readClause_18 (sh : List gb_Sh) (g : gb_G) (z0 : Nat) : Option (gb_G × Int32) := gb_bd (f_X9_wordIn sh g z0) (fun r1 => if r1.2 = (-1) then (some (r1.1, 0)) else (gb_bd (f_X9_step sh r1.1) (fun r3 => gb_bd (f_X7_beginClause sh r3 46 r1.2) (fun r5 => if r1.2 = 3 then (f_X8_readClause_59 sh r5 r1.2) else (gb_bd (f_RD sh 60 0 r5 0) (fun r26 => if r26.2 = 0 then (some (r26.1, 0)) else (f_X8_readClause_59 sh r26.1 r1.2)))))))
noncomputable def f_X8_readClause (sh : List gb_Sh) (g : gb_G) : Option (gb_G × Int32) := if (g.1 45 2) = 0 then (f_X8_readClause_18 sh g 1) else (f_X8_readClause_18 sh g 0)
set_option maxRecDepth 100000 in
set_option maxHeartbeats 4000000 in
theorem t_X8_readClause_150 {Γ : gb_X} {sh : List gb_Sh} {out : gb_G × Int32} (hS : gb_S sh) : ∀ (g : gb_G) , f_X8_readClause_150 sh g  = some out → gb_J Γ M_X8_readClause 481 (gb_Ri sh out) 0 0 sh g 150 [(0, .ref 45)] [] := by
  intro g  h
  unfold f_X8_readClause_150 at h
  refine gb_aload_n d_X8_readClause_150 rfl ?_
  refine gb_getr (r := 46) f_X8_12 (hS 45 _ rfl) rfl d_X8_readClause_151 ?_
  refine gb_iconst 2 d_X8_readClause_154 rfl ?_
  obtain ⟨r13, e14, h⟩ := gb_bd_e h
  refine gb_cVv (As := [.int 2]) (rest := []) m_X8_73 (t_X7_endPiece (Γ := Γ) hS (ok_X7_46 hS) e14) (ok_X7_46 hS).1 rfl (Nat.le_of_ble_eq_true rfl) rfl rfl (Nat.le_of_ble_eq_true rfl) d_X8_readClause_155 ?_
  refine gb_aload_n d_X8_readClause_158 rfl ?_
  refine gb_getr (r := 46) f_X8_12 (hS 45 _ rfl) rfl d_X8_readClause_159 ?_
  refine gb_dup d_X8_readClause_162 rfl ?_
  refine gb_geti f_X8_92 (ok_X7_46 hS).1 rfl d_X8_readClause_163 ?_
  refine gb_iconst 1 d_X8_readClause_166 rfl ?_
  refine gb_iadd d_X8_readClause_167 ?_
  refine gb_puti f_X8_92 (fun h => nomatch h) (ok_X7_46 hS).1 rfl rfl rfl d_X8_readClause_168 ?_
  have h := gb_let_e h
  generalize gb_pi r13 46 3 ((r13.1 46 3) + 1) = g15 at h ⊢
  refine gb_iconst 1 d_X8_readClause_171 rfl ?_
  cases h
  exact gb_zret d_X8_readClause_172 rfl rfl ⟨rfl, rfl, rfl⟩
set_option maxRecDepth 100000 in
set_option maxHeartbeats 4000000 in
theorem t_X8_readClause_131 {Γ : gb_X} {sh : List gb_Sh} {out : gb_G × Int32} (hS : gb_S sh) : ∀ (g : gb_G) , f_X8_readClause_131 sh g  = some out → gb_J Γ M_X8_readClause 481 (gb_Ri sh out) 0 0 sh g 131 [(0, .ref 45)] [] := by
  intro g  h
  unfold f_X8_readClause_131 at h
  refine gb_aload_n d_X8_readClause_131 rfl ?_
  refine gb_ldcS 4 rfl d_X8_readClause_132 ?_
  obtain ⟨r11, e12, h⟩ := gb_bd_e h
  refine gb_cVi (As := [.retAddr (2 + 4)]) (rest := []) m_X8_78 (t_X8_readKeyword (Γ := Γ) hS (by decide) e12) (hS 45 _ rfl) rfl (Nat.le_of_ble_eq_true rfl) rfl rfl (Nat.le_of_ble_eq_true rfl) d_X8_readClause_134 ?_
  refine gb_if_eq 150 d_X8_readClause_137 (by decide) (fun hc => ?_) (fun hc => ?_)
  · have h := gb_it hc h
    exact t_X8_readClause_150 hS  _  h
  · have h := gb_if hc h
    refine gb_aload_n d_X8_readClause_140 rfl ?_
    refine gb_iconst 0 d_X8_readClause_141 rfl ?_
    obtain ⟨r16, e17, h⟩ := gb_bd_e h
    refine gb_cVi (As := [.int 0]) (rest := []) m_X8_89 (t_X8_readTest_rec (Γ := Γ) hS e17) (hS 45 _ rfl) rfl (Nat.le_of_ble_eq_true rfl) rfl rfl (Nat.le_of_ble_eq_true rfl) d_X8_readClause_142 ?_
    refine gb_if_ne 150 d_X8_readClause_145 (by decide) (fun hc => ?_) (fun hc => ?_)
    · have h := gb_if hc h
      exact t_X8_readClause_150 hS  _  h
    · have h := gb_it hc h
      refine gb_iconst 0 d_X8_readClause_148 rfl ?_
      cases h
      exact gb_zret d_X8_readClause_149 rfl rfl ⟨rfl, rfl, rfl⟩
set_option maxRecDepth 100000 in
set_option maxHeartbeats 4000000 in
theorem t_X8_readClause_98 {Γ : gb_X} {sh : List gb_Sh} {out : gb_G × Int32} (hS : gb_S sh) : ∀ (g : gb_G) , f_X8_readClause_98 sh g  = some out → gb_J Γ M_X8_readClause 481 (gb_Ri sh out) 0 0 sh g 98 [(0, .ref 45)] [] := by
  intro g  h
  unfold f_X8_readClause_98 at h
  refine gb_aload_n d_X8_readClause_98 rfl ?_
  refine gb_getr (r := 46) f_X8_12 (hS 45 _ rfl) rfl d_X8_readClause_99 ?_
  refine gb_iconst 1 d_X8_readClause_102 rfl ?_
  obtain ⟨r9, e10, h⟩ := gb_bd_e h
  refine gb_cVv (As := [.int 1]) (rest := []) m_X8_73 (t_X7_endPiece (Γ := Γ) hS (ok_X7_46 hS) e10) (ok_X7_46 hS).1 rfl (Nat.le_of_ble_eq_true rfl) rfl rfl (Nat.le_of_ble_eq_true rfl) d_X8_readClause_103 ?_
  refine gb_aload_n d_X8_readClause_106 rfl ?_
  refine gb_geti f_X8_18 (hS 45 _ rfl) rfl d_X8_readClause_107 ?_
  refine gb_if_eq 131 d_X8_readClause_110 (by decide) (fun hc => ?_) (fun hc => ?_)
  · have h := gb_it hc h
    exact t_X8_readClause_131 hS  _  h
  · have h := gb_if hc h
    refine gb_aload_n d_X8_readClause_113 rfl ?_
    refine gb_ldcS 3 rfl d_X8_readClause_114 ?_
    obtain ⟨r18, e19, h⟩ := gb_bd_e h
    refine gb_cVi (As := [.retAddr (2 + 3)]) (rest := []) m_X8_78 (t_X8_readKeyword (Γ := Γ) hS (by decide) e19) (hS 45 _ rfl) rfl (Nat.le_of_ble_eq_true rfl) rfl rfl (Nat.le_of_ble_eq_true rfl) d_X8_readClause_116 ?_
    refine gb_if_eq 131 d_X8_readClause_119 (by decide) (fun hc => ?_) (fun hc => ?_)
    · have h := gb_it hc h
      exact t_X8_readClause_131 hS  _  h
    · have h := gb_if hc h
      refine gb_aload_n d_X8_readClause_122 rfl ?_
      obtain ⟨r20, e21, h⟩ := gb_bd_e h
      refine gb_cVi (As := []) (rest := []) m_X8_84 (t_X8_readTimes (Γ := Γ) hS e21) (hS 45 _ rfl) rfl (Nat.le_of_ble_eq_true rfl) rfl rfl (Nat.le_of_ble_eq_true rfl) d_X8_readClause_123 ?_
      refine gb_if_ne 131 d_X8_readClause_126 (by decide) (fun hc => ?_) (fun hc => ?_)
      · have h := gb_if hc h
        exact t_X8_readClause_131 hS  _  h
      · have h := gb_it hc h
        refine gb_iconst 0 d_X8_readClause_129 rfl ?_
        cases h
        exact gb_zret d_X8_readClause_130 rfl rfl ⟨rfl, rfl, rfl⟩
set_option maxRecDepth 100000 in
set_option maxHeartbeats 4000000 in
theorem t_X8_readClause_59 {Γ : gb_X} {sh : List gb_Sh} {out : gb_G × Int32} (hS : gb_S sh) : ∀ (g : gb_G) (y1 : Int32), f_X8_readClause_59 sh g y1 = some out → gb_J Γ M_X8_readClause 481 (gb_Ri sh out) 0 0 sh g 59 [(0, .ref 45), (1, .int y1)] [] := by
  intro g y1 h
  unfold f_X8_readClause_59 at h
  refine gb_aload_n d_X8_readClause_59 rfl ?_
  refine gb_getr (r := 46) f_X8_12 (hS 45 _ rfl) rfl d_X8_readClause_60 ?_
  refine gb_iconst 0 d_X8_readClause_63 rfl ?_
  obtain ⟨r7, e8, h⟩ := gb_bd_e h
  refine gb_cVv (As := [.int 0]) (rest := []) m_X8_73 (t_X7_endPiece (Γ := Γ) hS (ok_X7_46 hS) e8) (ok_X7_46 hS).1 rfl (Nat.le_of_ble_eq_true rfl) rfl rfl (Nat.le_of_ble_eq_true rfl) d_X8_readClause_64 ?_
  refine gb_aload_n d_X8_readClause_67 rfl ?_
  refine gb_geti f_X8_18 (hS 45 _ rfl) rfl d_X8_readClause_68 ?_
  refine gb_if_eq 98 d_X8_readClause_71 (by decide) (fun hc => ?_) (fun hc => ?_)
  · have h := gb_it hc h
    refine gb_pick (lv' := [(0, .ref 45)]) [0] rfl ?_
    exact t_X8_readClause_98 hS  _  h
  · have h := gb_if hc h
    refine gb_iload_n d_X8_readClause_74 rfl ?_
    refine gb_iconst 2 d_X8_readClause_75 rfl ?_
    refine gb_icmp_ne 98 d_X8_readClause_76 (by decide) (fun hc => ?_) (fun hc => ?_)
    · have h := gb_if hc h
      refine gb_pick (lv' := [(0, .ref 45)]) [0] rfl ?_
      exact t_X8_readClause_98 hS  _  h
    · have h := gb_it hc h
      refine gb_aload_n d_X8_readClause_79 rfl ?_
      refine gb_ldcS 2 rfl d_X8_readClause_80 ?_
      obtain ⟨r22, e23, h⟩ := gb_bd_e h
      refine gb_cVi (As := [.retAddr (2 + 2)]) (rest := []) m_X8_78 (t_X8_readKeyword (Γ := Γ) hS (by decide) e23) (hS 45 _ rfl) rfl (Nat.le_of_ble_eq_true rfl) rfl rfl (Nat.le_of_ble_eq_true rfl) d_X8_readClause_82 ?_
      refine gb_if_eq 96 d_X8_readClause_85 (by decide) (fun hc => ?_) (fun hc => ?_)
      · have h := gb_it hc h
        refine gb_iconst 0 d_X8_readClause_96 rfl ?_
        cases h
        exact gb_zret d_X8_readClause_97 rfl rfl ⟨rfl, rfl, rfl⟩
      · have h := gb_if hc h
        refine gb_aload_n d_X8_readClause_88 rfl ?_
        refine gb_iconst 0 d_X8_readClause_89 rfl ?_
        obtain ⟨r24, e25, h⟩ := gb_bd_e h
        refine gb_cVi (As := [.int 0]) (rest := []) m_X8_70 (t_X8_readSum_rec (Γ := Γ) hS e25) (hS 45 _ rfl) rfl (Nat.le_of_ble_eq_true rfl) rfl rfl (Nat.le_of_ble_eq_true rfl) d_X8_readClause_90 ?_
        refine gb_if_ne 98 d_X8_readClause_93 (by decide) (fun hc => ?_) (fun hc => ?_)
        · have h := gb_if hc h
          refine gb_pick (lv' := [(0, .ref 45)]) [0] rfl ?_
          exact t_X8_readClause_98 hS  _  h
        · have h := gb_it hc h
          refine gb_iconst 0 d_X8_readClause_96 rfl ?_
          cases h
          exact gb_zret d_X8_readClause_97 rfl rfl ⟨rfl, rfl, rfl⟩
set_option maxRecDepth 100000 in
set_option maxHeartbeats 4000000 in
theorem t_X8_readClause_18 {Γ : gb_X} {sh : List gb_Sh} {out : gb_G × Int32} (hS : gb_S sh) : ∀ (g : gb_G) (z0 : Nat), z0 < 13 → f_X8_readClause_18 sh g z0 = some out → gb_J Γ M_X8_readClause 481 (gb_Ri sh out) 0 0 sh g 18 [(0, .ref 45)] [.retAddr (2 + z0), .ref 43] := by
  intro g z0 hp_z0 h
  unfold f_X8_readClause_18 at h
  obtain ⟨r1, e2, h⟩ := gb_bd_e h
  refine gb_cVi (As := [.retAddr (2 + z0)]) (rest := []) m_X8_59 (t_X9_wordIn (Γ := Γ) hS hp_z0 e2) (hS 43 _ rfl) rfl (Nat.le_of_ble_eq_true rfl) rfl rfl (Nat.le_of_ble_eq_true rfl) d_X8_readClause_18 ?_
  refine gb_istore_n [(1, .int r1.2), (0, .ref 45)] d_X8_readClause_21 (Nat.le_of_ble_eq_true rfl) rfl ?_
  refine gb_iload_n d_X8_readClause_22 rfl ?_
  refine gb_iconst (-1) d_X8_readClause_23 rfl ?_
  refine gb_icmp_ne 29 d_X8_readClause_24 (by decide) (fun hc => ?_) (fun hc => ?_)
  · have h := gb_if hc h
    refine gb_aload_n d_X8_readClause_29 rfl ?_
    refine gb_getr (r := 43) f_X8_26 (hS 45 _ rfl) rfl d_X8_readClause_30 ?_
    obtain ⟨r3, e4, h⟩ := gb_bd_e h
    refine gb_cVv (As := []) (rest := []) m_X8_63 (t_X9_step (Γ := Γ) hS e4) (hS 43 _ rfl) rfl (Nat.le_of_ble_eq_true rfl) rfl rfl (Nat.le_of_ble_eq_true rfl) d_X8_readClause_33 ?_
    refine gb_aload_n d_X8_readClause_36 rfl ?_
    refine gb_getr (r := 46) f_X8_12 (hS 45 _ rfl) rfl d_X8_readClause_37 ?_
    refine gb_iload_n d_X8_readClause_40 rfl ?_
    obtain ⟨r5, e6, h⟩ := gb_bd_e h
    refine gb_cVv (As := [.int r1.2]) (rest := []) m_X8_66 (t_X7_beginClause (Γ := Γ) hS (ok_X7_46 hS) e6) (ok_X7_46 hS).1 rfl (Nat.le_of_ble_eq_true rfl) rfl rfl (Nat.le_of_ble_eq_true rfl) d_X8_readClause_41 ?_
    refine gb_iload_n d_X8_readClause_44 rfl ?_
    refine gb_iconst 3 d_X8_readClause_45 rfl ?_
    refine gb_icmp_eq 59 d_X8_readClause_46 (by decide) (fun hc => ?_) (fun hc => ?_)
    · have h := gb_it hc h
      refine gb_pick (lv' := [(0, .ref 45), (1, .int r1.2)]) [1, 0] rfl ?_
      exact t_X8_readClause_59 hS  _ r1.2 h
    · have h := gb_if hc h
      refine gb_aload_n d_X8_readClause_49 rfl ?_
      refine gb_iconst 0 d_X8_readClause_50 rfl ?_
      obtain ⟨r26, e27, h⟩ := gb_bd_e h
      refine gb_cVi (As := [.int 0]) (rest := []) m_X8_70 (t_X8_readSum_rec (Γ := Γ) hS e27) (hS 45 _ rfl) rfl (Nat.le_of_ble_eq_true rfl) rfl rfl (Nat.le_of_ble_eq_true rfl) d_X8_readClause_51 ?_
      refine gb_if_ne 59 d_X8_readClause_54 (by decide) (fun hc => ?_) (fun hc => ?_)
      · have h := gb_if hc h
        refine gb_pick (lv' := [(0, .ref 45), (1, .int r1.2)]) [1, 0] rfl ?_
        exact t_X8_readClause_59 hS  _ r1.2 h
      · have h := gb_it hc h
        refine gb_iconst 0 d_X8_readClause_57 rfl ?_
        cases h
        exact gb_zret d_X8_readClause_58 rfl rfl ⟨rfl, rfl, rfl⟩
  · have h := gb_it hc h
    refine gb_iconst 0 d_X8_readClause_27 rfl ?_
    cases h
    exact gb_zret d_X8_readClause_28 rfl rfl ⟨rfl, rfl, rfl⟩
set_option maxRecDepth 100000 in
set_option maxHeartbeats 4000000 in
theorem t_X8_readClause {Γ : gb_X} {sh : List gb_Sh} {out : gb_G × Int32} (hS : gb_S sh) {g : gb_G} (h : f_X8_readClause sh g = some out) : gb_C Γ M_X8_readClause 481 0 0 sh g [.ref 45] (gb_Ri sh out) := by
  refine gb_C.of rfl (Nat.le_of_ble_eq_true rfl) ?_
  refine gb_pick (lv' := [(0, .ref 45)]) [0] rfl ?_
  unfold f_X8_readClause at h
  refine gb_aload_n d_X8_readClause_0 rfl ?_
  refine gb_getr (r := 43) f_X8_26 (hS 45 _ rfl) rfl d_X8_readClause_1 ?_
  refine gb_aload_n d_X8_readClause_4 rfl ?_
  refine gb_geti f_X8_18 (hS 45 _ rfl) rfl d_X8_readClause_5 ?_
  refine gb_if_eq 16 d_X8_readClause_8 (by decide) (fun hc => ?_) (fun hc => ?_)
  · have h := gb_it hc h
    refine gb_ldcS 1 rfl d_X8_readClause_16 ?_
    exact t_X8_readClause_18 hS  _ 1 (by decide) h
  · have h := gb_if hc h
    refine gb_ldcS 0 rfl d_X8_readClause_11 ?_
    refine gb_goto 18 d_X8_readClause_13 (by decide) ?_
    exact t_X8_readClause_18 hS  _ 0 (by decide) h
-- X9_rewind
noncomputable def f_X9_rewind (sh : List gb_Sh) (g : gb_G) : Option (gb_G) := gb_let (gb_pi g 43 3 0) (fun g1 => gb_bd (f_X9_step sh g1) (fun r2 => some r2))
set_option maxRecDepth 100000 in
set_option maxHeartbeats 4000000 in
theorem t_X9_rewind {Γ : gb_X} {sh : List gb_Sh} {out : gb_G} (hS : gb_S sh) {g : gb_G} (h : f_X9_rewind sh g = some out) : gb_C Γ M_X9_rewind 2 0 0 sh g [.ref 43] (gb_Rv sh out) := by
  refine gb_C.of rfl (Nat.le_of_ble_eq_true rfl) ?_
  refine gb_pick (lv' := [(0, .ref 43)]) [0] rfl ?_
  unfold f_X9_rewind at h
  refine gb_aload_n d_X9_rewind_0 rfl ?_
  refine gb_iconst 0 d_X9_rewind_1 rfl ?_
  refine gb_puti f_X9_22 (fun h => nomatch h) (hS 43 _ rfl) rfl rfl rfl d_X9_rewind_2 ?_
  have h := gb_let_e h
  generalize gb_pi g 43 3 0 = g1 at h ⊢
  refine gb_aload_n d_X9_rewind_5 rfl ?_
  obtain ⟨r2, e3, h⟩ := gb_bd_e h
  refine gb_cVv (As := []) (rest := []) m_X9_28 (t_X9_step (Γ := Γ) hS e3) (hS 43 _ rfl) rfl (Nat.le_of_ble_eq_true rfl) rfl rfl (Nat.le_of_ble_eq_true rfl) d_X9_rewind_6 ?_
  cases h
  exact gb_vret d_X9_rewind_9 rfl ⟨rfl, rfl, rfl⟩
-- X8_read
noncomputable def f_X8_read_105 (sh : List gb_Sh) (g : gb_G) (z0 : Int32) : Option (gb_G × Int32) := gb_let (gb_pi g 43 1 0) (fun g8 => some (g8, z0))
noncomputable def f_X8_read_76 (sh : List gb_Sh) (g : gb_G) (y2 : Int32) (y3 : Int32) : Option (gb_G × Int32) := if y2 = 0 then (f_X8_read_105 sh g (g.1 43 2)) else (if y3 = 0 then (gb_bd (f_X9_ended sh g) (fun r9 => if r9.2 = 0 then (f_X8_read_105 sh r9.1 (r9.1.1 43 2)) else (f_X8_read_105 sh r9.1 (-1)))) else (f_X8_read_105 sh g (g.1 43 2)))
noncomputable def f_X8_read_69 (sh : List gb_Sh) (K31 : gb_G → Int32 → Int32 → Int32 → Option (gb_G × Int32)) (g : gb_G) (y2 : Int32) (y4 : Int32) (z0 : Int32) : Option (gb_G × Int32) := K31 g y2 z0 (y4 + 1)
noncomputable def f_X8_read_31 (sh : List gb_Sh) : Nat → gb_G → Int32 → Int32 → Int32 → Option (gb_G × Int32)
  | 0, _, _, _, _ => none
  | n + 1, g, y2, y3, y4 => if 12 ≤ y4 then (f_X8_read_76 sh g y2 y3) else (if y2 = 0 then (f_X8_read_76 sh g y2 y3) else (if y3 = 0 then (f_X8_read_76 sh g y2 y3) else (gb_bd (f_X8_readClause sh g) (fun r11 => if r11.2 = 0 then (f_X8_read_69 sh (fun w w0 w1 w2 => f_X8_read_31 sh n w w0 w1 w2) r11.1 r11.2 y4 0) else (gb_bd (f_X8_readSign sh r11.1 59) (fun r13 => if r13.2 = 0 then (f_X8_read_69 sh (fun w w0 w1 w2 => f_X8_read_31 sh n w w0 w1 w2) r13.1 r11.2 y4 0) else (f_X8_read_69 sh (fun w w0 w1 w2 => f_X8_read_31 sh n w w0 w1 w2) r13.1 r11.2 y4 1)))))))
noncomputable def f_X8_read (sh : List gb_Sh) (g : gb_G) (x1 : Int32) : Option (gb_G × Int32) := gb_bo x1 (gb_let (gb_pi g 45 2 x1) (fun g1 => gb_let (gb_pi g1 45 3 0) (fun g3 => gb_bd (f_X7_clear sh g3 46) (fun r4 => gb_bd (f_X9_rewind sh r4) (fun r6 => f_X8_read_31 sh gb_N r6 1 1 0)))))
set_option maxRecDepth 100000 in
set_option maxHeartbeats 4000000 in
theorem t_X8_read_105 {Γ : gb_X} {sh : List gb_Sh} {out : gb_G × Int32} (hS : gb_S sh) : ∀ (g : gb_G) (z0 : Int32), f_X8_read_105 sh g z0 = some out → gb_J Γ M_X8_read 482 (gb_Ri sh out) 0 0 sh g 105 [(0, .ref 45)] [.int z0] := by
  intro g z0 h
  unfold f_X8_read_105 at h
  refine gb_istore [(4, .int z0), (0, .ref 45)] d_X8_read_105 (Nat.le_of_ble_eq_true rfl) rfl ?_
  refine gb_aload_n d_X8_read_107 rfl ?_
  refine gb_getr (r := 43) f_X8_26 (hS 45 _ rfl) rfl d_X8_read_108 ?_
  refine gb_iconst 0 d_X8_read_111 rfl ?_
  refine gb_puti f_X8_52 (fun h => nomatch h) (hS 43 _ rfl) rfl rfl rfl d_X8_read_112 ?_
  have h := gb_let_e h
  generalize gb_pi g 43 1 0 = g8 at h ⊢
  refine gb_iload d_X8_read_115 rfl ?_
  cases h
  exact gb_iret d_X8_read_117 rfl ⟨rfl, rfl, rfl⟩
set_option maxRecDepth 100000 in
set_option maxHeartbeats 4000000 in
theorem t_X8_read_76 {Γ : gb_X} {sh : List gb_Sh} {out : gb_G × Int32} (hS : gb_S sh) : ∀ (g : gb_G) (y2 : Int32) (y3 : Int32), f_X8_read_76 sh g y2 y3 = some out → gb_J Γ M_X8_read 482 (gb_Ri sh out) 0 0 sh g 76 [(0, .ref 45), (2, .int y2), (3, .int y3)] [] := by
  intro g y2 y3 h
  unfold f_X8_read_76 at h
  refine gb_iload_n d_X8_read_76 rfl ?_
  refine gb_if_eq 98 d_X8_read_77 (by decide) (fun hc => ?_) (fun hc => ?_)
  · have h := gb_it hc h
    refine gb_aload_n d_X8_read_98 rfl ?_
    refine gb_getr (r := 43) f_X8_26 (hS 45 _ rfl) rfl d_X8_read_99 ?_
    refine gb_geti f_X8_49 (hS 43 _ rfl) rfl d_X8_read_102 ?_
    refine gb_pick (lv' := [(0, .ref 45)]) [0] rfl ?_
    exact t_X8_read_105 hS  _ (g.1 43 2) h
  · have h := gb_if hc h
    refine gb_iload_n d_X8_read_80 rfl ?_
    refine gb_if_ne 98 d_X8_read_81 (by decide) (fun hc => ?_) (fun hc => ?_)
    · have h := gb_if hc h
      refine gb_aload_n d_X8_read_98 rfl ?_
      refine gb_getr (r := 43) f_X8_26 (hS 45 _ rfl) rfl d_X8_read_99 ?_
      refine gb_geti f_X8_49 (hS 43 _ rfl) rfl d_X8_read_102 ?_
      refine gb_pick (lv' := [(0, .ref 45)]) [0] rfl ?_
      exact t_X8_read_105 hS  _ (g.1 43 2) h
    · have h := gb_it hc h
      refine gb_aload_n d_X8_read_84 rfl ?_
      refine gb_getr (r := 43) f_X8_26 (hS 45 _ rfl) rfl d_X8_read_85 ?_
      obtain ⟨r9, e10, h⟩ := gb_bd_e h
      refine gb_cVi (As := []) (rest := []) m_X8_46 (t_X9_ended (Γ := Γ) hS e10) (hS 43 _ rfl) rfl (Nat.le_of_ble_eq_true rfl) rfl rfl (Nat.le_of_ble_eq_true rfl) d_X8_read_88 ?_
      refine gb_if_eq 98 d_X8_read_91 (by decide) (fun hc => ?_) (fun hc => ?_)
      · have h := gb_it hc h
        refine gb_aload_n d_X8_read_98 rfl ?_
        refine gb_getr (r := 43) f_X8_26 (hS 45 _ rfl) rfl d_X8_read_99 ?_
        refine gb_geti f_X8_49 (hS 43 _ rfl) rfl d_X8_read_102 ?_
        refine gb_pick (lv' := [(0, .ref 45)]) [0] rfl ?_
        exact t_X8_read_105 hS  _ (r9.1.1 43 2) h
      · have h := gb_if hc h
        refine gb_iconst (-1) d_X8_read_94 rfl ?_
        refine gb_goto 105 d_X8_read_95 (by decide) ?_
        refine gb_pick (lv' := [(0, .ref 45)]) [0] rfl ?_
        exact t_X8_read_105 hS  _ (-1) h
set_option maxRecDepth 100000 in
set_option maxHeartbeats 4000000 in
theorem t_X8_read_69 {Γ : gb_X} {sh : List gb_Sh} {out : gb_G × Int32} (hS : gb_S sh) {K31 : gb_G → Int32 → Int32 → Int32 → Option (gb_G × Int32)} (hK31 : ∀ (g : gb_G) (y2 : Int32) (y3 : Int32) (y4 : Int32), K31 g y2 y3 y4 = some out → gb_J Γ M_X8_read 482 (gb_Ri sh out) 0 0 sh g 31 [(0, .ref 45), (2, .int y2), (3, .int y3), (4, .int y4)] []) : ∀ (g : gb_G) (y2 : Int32) (y4 : Int32) (z0 : Int32), f_X8_read_69 sh K31 g y2 y4 z0 = some out → gb_J Γ M_X8_read 482 (gb_Ri sh out) 0 0 sh g 69 [(0, .ref 45), (2, .int y2), (4, .int y4)] [.int z0] := by
  intro g y2 y4 z0 h
  unfold f_X8_read_69 at h
  refine gb_istore_n [(3, .int z0), (0, .ref 45), (2, .int y2), (4, .int y4)] d_X8_read_69 (Nat.le_of_ble_eq_true rfl) rfl ?_
  refine gb_iinc (y4 + 1) [(4, .int (y4 + 1)), (3, .int z0), (0, .ref 45), (2, .int y2)] d_X8_read_70 (Nat.le_of_ble_eq_true rfl) rfl rfl rfl ?_
  refine gb_goto 31 d_X8_read_73 (by decide) ?_
  refine gb_pick (lv' := [(0, .ref 45), (2, .int y2), (3, .int z0), (4, .int (y4 + 1))]) [2, 3, 1, 0] rfl ?_
  exact hK31 _ y2 z0 (y4 + 1) h
set_option maxRecDepth 100000 in
set_option maxHeartbeats 4000000 in
theorem t_X8_read_31 {Γ : gb_X} {sh : List gb_Sh} {out : gb_G × Int32} (hS : gb_S sh) : ∀ (n : Nat) (g : gb_G) (y2 : Int32) (y3 : Int32) (y4 : Int32), f_X8_read_31 sh n g y2 y3 y4 = some out → gb_J Γ M_X8_read 482 (gb_Ri sh out) 0 0 sh g 31 [(0, .ref 45), (2, .int y2), (3, .int y3), (4, .int y4)] [] := by
  intro n
  induction n with
  | zero => intro g y2 y3 y4 h; cases h
  | succ n ih =>
    intro g y2 y3 y4 h
    rw [f_X8_read_31] at h
    refine gb_iload d_X8_read_31 rfl ?_
    refine gb_bipush 12 d_X8_read_33 rfl ?_
    refine gb_icmp_ge 76 d_X8_read_35 (by decide) (fun hc => ?_) (fun hc => ?_)
    · have h := gb_it hc h
      refine gb_pick (lv' := [(0, .ref 45), (2, .int y2), (3, .int y3)]) [0, 1, 2] rfl ?_
      exact t_X8_read_76 hS  _ y2 y3 h
    · have h := gb_if hc h
      refine gb_iload_n d_X8_read_38 rfl ?_
      refine gb_if_eq 76 d_X8_read_39 (by decide) (fun hc => ?_) (fun hc => ?_)
      · have h := gb_it hc h
        refine gb_pick (lv' := [(0, .ref 45), (2, .int y2), (3, .int y3)]) [0, 1, 2] rfl ?_
        exact t_X8_read_76 hS  _ y2 y3 h
      · have h := gb_if hc h
        refine gb_iload_n d_X8_read_42 rfl ?_
        refine gb_if_eq 76 d_X8_read_43 (by decide) (fun hc => ?_) (fun hc => ?_)
        · have h := gb_it hc h
          refine gb_pick (lv' := [(0, .ref 45), (2, .int y2), (3, .int y3)]) [0, 1, 2] rfl ?_
          exact t_X8_read_76 hS  _ y2 y3 h
        · have h := gb_if hc h
          refine gb_aload_n d_X8_read_46 rfl ?_
          obtain ⟨r11, e12, h⟩ := gb_bd_e h
          refine gb_cVi (As := []) (rest := []) m_X8_38 (t_X8_readClause (Γ := Γ) hS e12) (hS 45 _ rfl) rfl (Nat.le_of_ble_eq_true rfl) rfl rfl (Nat.le_of_ble_eq_true rfl) d_X8_read_47 ?_
          refine gb_istore_n [(2, .int r11.2), (0, .ref 45), (3, .int y3), (4, .int y4)] d_X8_read_50 (Nat.le_of_ble_eq_true rfl) rfl ?_
          refine gb_iload_n d_X8_read_51 rfl ?_
          refine gb_if_eq 68 d_X8_read_52 (by decide) (fun hc => ?_) (fun hc => ?_)
          · have h := gb_it hc h
            refine gb_iconst 0 d_X8_read_68 rfl ?_
            refine gb_pick (lv' := [(0, .ref 45), (2, .int r11.2), (4, .int y4)]) [1, 0, 3] rfl ?_
            exact t_X8_read_69 hS (fun w w0 w1 w2 hw => ih w w0 w1 w2 hw) _ r11.2 y4 0 h
          · have h := gb_if hc h
            refine gb_aload_n d_X8_read_55 rfl ?_
            refine gb_bipush 59 d_X8_read_56 rfl ?_
            obtain ⟨r13, e14, h⟩ := gb_bd_e h
            refine gb_cVi (As := [.int 59]) (rest := []) m_X8_42 (t_X8_readSign (Γ := Γ) hS e14) (hS 45 _ rfl) rfl (Nat.le_of_ble_eq_true rfl) rfl rfl (Nat.le_of_ble_eq_true rfl) d_X8_read_58 ?_
            refine gb_if_eq 68 d_X8_read_61 (by decide) (fun hc => ?_) (fun hc => ?_)
            · have h := gb_it hc h
              refine gb_iconst 0 d_X8_read_68 rfl ?_
              refine gb_pick (lv' := [(0, .ref 45), (2, .int r11.2), (4, .int y4)]) [1, 0, 3] rfl ?_
              exact t_X8_read_69 hS (fun w w0 w1 w2 hw => ih w w0 w1 w2 hw) _ r11.2 y4 0 h
            · have h := gb_if hc h
              refine gb_iconst 1 d_X8_read_64 rfl ?_
              refine gb_goto 69 d_X8_read_65 (by decide) ?_
              refine gb_pick (lv' := [(0, .ref 45), (2, .int r11.2), (4, .int y4)]) [1, 0, 3] rfl ?_
              exact t_X8_read_69 hS (fun w w0 w1 w2 hw => ih w w0 w1 w2 hw) _ r11.2 y4 1 h
set_option maxRecDepth 100000 in
set_option maxHeartbeats 4000000 in
theorem t_X8_read {Γ : gb_X} {sh : List gb_Sh} {x1 : Int32} {out : gb_G × Int32} (hS : gb_S sh) {g : gb_G} (h : f_X8_read sh g x1 = some out) : gb_C Γ M_X8_read 482 0 0 sh g [.ref 45, .int x1] (gb_Ri sh out) := by
  refine gb_C.of rfl (Nat.le_of_ble_eq_true rfl) ?_
  refine gb_pick (lv' := [(0, .ref 45), (1, .int x1)]) [0, 1] rfl ?_
  unfold f_X8_read at h
  refine gb_aload_n d_X8_read_0 rfl ?_
  refine gb_iload_n d_X8_read_1 rfl ?_
  obtain ⟨hb2, hb2f, h⟩ := gb_bo_e2 h
  refine gb_puti f_X8_18 (fun h => nomatch h) (hS 45 _ rfl) rfl hb2 hb2f d_X8_read_2 ?_
  have h := gb_let_e h
  generalize gb_pi g 45 2 x1 = g1 at h ⊢
  refine gb_aload_n d_X8_read_5 rfl ?_
  refine gb_iconst 0 d_X8_read_6 rfl ?_
  refine gb_puti f_X8_22 (fun h => nomatch h) (hS 45 _ rfl) rfl rfl rfl d_X8_read_7 ?_
  have h := gb_let_e h
  generalize gb_pi g1 45 3 0 = g3 at h ⊢
  refine gb_aload_n d_X8_read_10 rfl ?_
  refine gb_getr (r := 46) f_X8_12 (hS 45 _ rfl) rfl d_X8_read_11 ?_
  obtain ⟨r4, e5, h⟩ := gb_bd_e h
  refine gb_cVv (As := []) (rest := []) m_X8_30 (t_X7_clear (Γ := Γ) hS (ok_X7_46 hS) e5) (ok_X7_46 hS).1 rfl (Nat.le_of_ble_eq_true rfl) rfl rfl (Nat.le_of_ble_eq_true rfl) d_X8_read_14 ?_
  refine gb_aload_n d_X8_read_17 rfl ?_
  refine gb_getr (r := 43) f_X8_26 (hS 45 _ rfl) rfl d_X8_read_18 ?_
  obtain ⟨r6, e7, h⟩ := gb_bd_e h
  refine gb_cVv (As := []) (rest := []) m_X8_33 (t_X9_rewind (Γ := Γ) hS e7) (hS 43 _ rfl) rfl (Nat.le_of_ble_eq_true rfl) rfl rfl (Nat.le_of_ble_eq_true rfl) d_X8_read_21 ?_
  refine gb_iconst 1 d_X8_read_24 rfl ?_
  refine gb_istore_n [(2, .int 1), (0, .ref 45), (1, .int x1)] d_X8_read_25 (Nat.le_of_ble_eq_true rfl) rfl ?_
  refine gb_iconst 1 d_X8_read_26 rfl ?_
  refine gb_istore_n [(3, .int 1), (2, .int 1), (0, .ref 45), (1, .int x1)] d_X8_read_27 (Nat.le_of_ble_eq_true rfl) rfl ?_
  refine gb_iconst 0 d_X8_read_28 rfl ?_
  refine gb_istore [(4, .int 0), (3, .int 1), (2, .int 1), (0, .ref 45), (1, .int x1)] d_X8_read_29 (Nat.le_of_ble_eq_true rfl) rfl ?_
  refine gb_pick (lv' := [(0, .ref 45), (2, .int 1), (3, .int 1), (4, .int 0)]) [3, 2, 1, 0] rfl ?_
  exact t_X8_read_31 hS  gb_N _ 1 1 0 h
-- X9_append
noncomputable def f_X9_append_3 (sh : List gb_Sh) : Nat → gb_G → Int32 → Int32 → Option (gb_G)
  | 0, _, _, _ => none
  | n + 1, g, y1, y2 => if y2 < 0 then (some g) else (if 400 ≤ (g.1 43 1) then (some g) else (gb_ck (g.1 43 1) 400 (gb_let (gb_pi g 44 ((g.1 43 1).toNatClampNeg) (((y1.toUInt32 >>> (y2.toUInt32 &&& Int32.toUInt32 31)).toInt32) &&& 255)) (fun g2 => gb_let (gb_pi g2 43 1 ((g2.1 43 1) + 1)) (fun g3 => f_X9_append_3 sh n g3 y1 (y2 + (-8)))))))
noncomputable def f_X9_append (sh : List gb_Sh) (g : gb_G) (x1 : Int32) : Option (gb_G) := f_X9_append_3 sh gb_N g x1 24
set_option maxRecDepth 100000 in
set_option maxHeartbeats 4000000 in
theorem t_X9_append_3 {Γ : gb_X} {sh : List gb_Sh} {out : gb_G} (hS : gb_S sh) : ∀ (n : Nat) (g : gb_G) (y1 : Int32) (y2 : Int32), f_X9_append_3 sh n g y1 y2 = some out → gb_J Γ M_X9_append 0 (gb_Rv sh out) 0 0 sh g 3 [(0, .ref 43), (1, .int y1), (2, .int y2)] [] := by
  intro n
  induction n with
  | zero => intro g y1 y2 h; cases h
  | succ n ih =>
    intro g y1 y2 h
    rw [f_X9_append_3] at h
    refine gb_iload_n d_X9_append_3 rfl ?_
    refine gb_if_lt 49 d_X9_append_4 (by decide) (fun hc => ?_) (fun hc => ?_)
    · have h := gb_it hc h
      cases h
      exact gb_vret d_X9_append_49 rfl ⟨rfl, rfl, rfl⟩
    · have h := gb_if hc h
      refine gb_aload_n d_X9_append_7 rfl ?_
      refine gb_geti f_X9_15 (hS 43 _ rfl) rfl d_X9_append_8 ?_
      refine gb_sipush 400 d_X9_append_11 rfl ?_
      refine gb_icmp_ge 49 d_X9_append_14 (by decide) (fun hc => ?_) (fun hc => ?_)
      · have h := gb_it hc h
        cases h
        exact gb_vret d_X9_append_49 rfl ⟨rfl, rfl, rfl⟩
      · have h := gb_if hc h
        refine gb_aload_n d_X9_append_17 rfl ?_
        refine gb_getr (r := 44) f_X9_9 (hS 43 _ rfl) rfl d_X9_append_18 ?_
        refine gb_aload_n d_X9_append_21 rfl ?_
        refine gb_geti f_X9_15 (hS 43 _ rfl) rfl d_X9_append_22 ?_
        refine gb_iload_n d_X9_append_25 rfl ?_
        refine gb_iload_n d_X9_append_26 rfl ?_
        refine gb_iushr d_X9_append_27 ?_
        refine gb_sipush 255 d_X9_append_28 rfl ?_
        refine gb_iand d_X9_append_31 ?_
        obtain ⟨hi1, h⟩ := gb_ck_e h
        refine gb_iast_ ((g.1 43 1).toNatClampNeg) rfl (hS 44 _ rfl) hi1 d_X9_append_32 ?_
        have h := gb_let_e h
        generalize gb_pi g 44 ((g.1 43 1).toNatClampNeg) (((y1.toUInt32 >>> (y2.toUInt32 &&& Int32.toUInt32 31)).toInt32) &&& 255) = g2 at h ⊢
        refine gb_aload_n d_X9_append_33 rfl ?_
        refine gb_dup d_X9_append_34 rfl ?_
        refine gb_geti f_X9_15 (hS 43 _ rfl) rfl d_X9_append_35 ?_
        refine gb_iconst 1 d_X9_append_38 rfl ?_
        refine gb_iadd d_X9_append_39 ?_
        refine gb_puti f_X9_15 (fun h => nomatch h) (hS 43 _ rfl) rfl rfl rfl d_X9_append_40 ?_
        have h := gb_let_e h
        generalize gb_pi g2 43 1 ((g2.1 43 1) + 1) = g3 at h ⊢
        refine gb_iinc (y2 + (-8)) [(2, .int (y2 + (-8))), (0, .ref 43), (1, .int y1)] d_X9_append_43 (Nat.le_of_ble_eq_true rfl) rfl rfl rfl ?_
        refine gb_goto 3 d_X9_append_46 (by decide) ?_
        refine gb_pick (lv' := [(0, .ref 43), (1, .int y1), (2, .int (y2 + (-8)))]) [1, 2, 0] rfl ?_
        exact ih _ y1 (y2 + (-8)) h
set_option maxRecDepth 100000 in
set_option maxHeartbeats 4000000 in
theorem t_X9_append {Γ : gb_X} {sh : List gb_Sh} {x1 : Int32} {out : gb_G} (hS : gb_S sh) {g : gb_G} (h : f_X9_append sh g x1 = some out) : gb_C Γ M_X9_append 0 0 0 sh g [.ref 43, .int x1] (gb_Rv sh out) := by
  refine gb_C.of rfl (Nat.le_of_ble_eq_true rfl) ?_
  refine gb_pick (lv' := [(0, .ref 43), (1, .int x1)]) [0, 1] rfl ?_
  unfold f_X9_append at h
  refine gb_bipush 24 d_X9_append_0 rfl ?_
  refine gb_istore_n [(2, .int 24), (0, .ref 43), (1, .int x1)] d_X9_append_2 (Nat.le_of_ble_eq_true rfl) rfl ?_
  refine gb_pick (lv' := [(0, .ref 43), (1, .int x1), (2, .int 24)]) [1, 2, 0] rfl ?_
  exact t_X9_append_3 hS  gb_N _ x1 24 h
-- X10_canBeGood
noncomputable def f_X10_canBeGood (sh : List gb_Sh) (g : gb_G) (x1 : Int32) (x2 : Int32) (x3 : Int32) (x4 : Int32) : Option (gb_G × Int32) := gb_bd (f_X10_within sh g x1 1 12) (fun r1 => if r1.2 = 0 then (some (r1.1, 0)) else (gb_bd (f_X10_within sh r1.1 x2 1 12) (fun r3 => if r3.2 = 0 then (some (r3.1, 0)) else (gb_bd (f_X10_within sh r3.1 x3 0 99) (fun r5 => if r5.2 = 0 then (some (r5.1, 0)) else (gb_bd (f_X10_within sh r5.1 x4 0 9) (fun r7 => if r7.2 = 0 then (some (r7.1, 0)) else (some (r7.1, 1)))))))))
set_option maxRecDepth 100000 in
set_option maxHeartbeats 4000000 in
theorem t_X10_canBeGood {Γ : gb_X} {sh : List gb_Sh} {x1 : Int32} {x2 : Int32} {x3 : Int32} {x4 : Int32} {out : gb_G × Int32} (hS : gb_S sh) {g : gb_G} (h : f_X10_canBeGood sh g x1 x2 x3 x4 = some out) : gb_C Γ M_X10_canBeGood 1 0 0 sh g [.int x1, .int x2, .int x3, .int x4] (gb_Ri sh out) := by
  refine gb_C.of rfl (Nat.le_of_ble_eq_true rfl) ?_
  refine gb_pick (lv' := [(0, .int x1), (1, .int x2), (2, .int x3), (3, .int x4)]) [0, 1, 2, 3] rfl ?_
  unfold f_X10_canBeGood at h
  refine gb_iload_n d_X10_canBeGood_0 rfl ?_
  refine gb_iconst 1 d_X10_canBeGood_1 rfl ?_
  refine gb_bipush 12 d_X10_canBeGood_2 rfl ?_
  obtain ⟨r1, e2, h⟩ := gb_bd_e h
  refine gb_cSi (As := [.int x1, .int 1, .int 12]) (rest := []) m_X10_115 (t_X10_within (Γ := Γ) hS e2) (Nat.le_of_ble_eq_true rfl) rfl rfl (Nat.le_of_ble_eq_true rfl) d_X10_canBeGood_4 ?_
  refine gb_if_eq 44 d_X10_canBeGood_7 (by decide) (fun hc => ?_) (fun hc => ?_)
  · have h := gb_it hc h
    refine gb_iconst 0 d_X10_canBeGood_44 rfl ?_
    cases h
    exact gb_zret d_X10_canBeGood_45 rfl rfl ⟨rfl, rfl, rfl⟩
  · have h := gb_if hc h
    refine gb_iload_n d_X10_canBeGood_10 rfl ?_
    refine gb_iconst 1 d_X10_canBeGood_11 rfl ?_
    refine gb_bipush 12 d_X10_canBeGood_12 rfl ?_
    obtain ⟨r3, e4, h⟩ := gb_bd_e h
    refine gb_cSi (As := [.int x2, .int 1, .int 12]) (rest := []) m_X10_115 (t_X10_within (Γ := Γ) hS e4) (Nat.le_of_ble_eq_true rfl) rfl rfl (Nat.le_of_ble_eq_true rfl) d_X10_canBeGood_14 ?_
    refine gb_if_eq 44 d_X10_canBeGood_17 (by decide) (fun hc => ?_) (fun hc => ?_)
    · have h := gb_it hc h
      refine gb_iconst 0 d_X10_canBeGood_44 rfl ?_
      cases h
      exact gb_zret d_X10_canBeGood_45 rfl rfl ⟨rfl, rfl, rfl⟩
    · have h := gb_if hc h
      refine gb_iload_n d_X10_canBeGood_20 rfl ?_
      refine gb_iconst 0 d_X10_canBeGood_21 rfl ?_
      refine gb_bipush 99 d_X10_canBeGood_22 rfl ?_
      obtain ⟨r5, e6, h⟩ := gb_bd_e h
      refine gb_cSi (As := [.int x3, .int 0, .int 99]) (rest := []) m_X10_115 (t_X10_within (Γ := Γ) hS e6) (Nat.le_of_ble_eq_true rfl) rfl rfl (Nat.le_of_ble_eq_true rfl) d_X10_canBeGood_24 ?_
      refine gb_if_eq 44 d_X10_canBeGood_27 (by decide) (fun hc => ?_) (fun hc => ?_)
      · have h := gb_it hc h
        refine gb_iconst 0 d_X10_canBeGood_44 rfl ?_
        cases h
        exact gb_zret d_X10_canBeGood_45 rfl rfl ⟨rfl, rfl, rfl⟩
      · have h := gb_if hc h
        refine gb_iload_n d_X10_canBeGood_30 rfl ?_
        refine gb_iconst 0 d_X10_canBeGood_31 rfl ?_
        refine gb_bipush 9 d_X10_canBeGood_32 rfl ?_
        obtain ⟨r7, e8, h⟩ := gb_bd_e h
        refine gb_cSi (As := [.int x4, .int 0, .int 9]) (rest := []) m_X10_115 (t_X10_within (Γ := Γ) hS e8) (Nat.le_of_ble_eq_true rfl) rfl rfl (Nat.le_of_ble_eq_true rfl) d_X10_canBeGood_34 ?_
        refine gb_if_eq 44 d_X10_canBeGood_37 (by decide) (fun hc => ?_) (fun hc => ?_)
        · have h := gb_it hc h
          refine gb_iconst 0 d_X10_canBeGood_44 rfl ?_
          cases h
          exact gb_zret d_X10_canBeGood_45 rfl rfl ⟨rfl, rfl, rfl⟩
        · have h := gb_if hc h
          refine gb_iconst 1 d_X10_canBeGood_40 rfl ?_
          refine gb_goto 45 d_X10_canBeGood_41 (by decide) ?_
          cases h
          exact gb_zret d_X10_canBeGood_45 rfl rfl ⟨rfl, rfl, rfl⟩
-- X10_grant
noncomputable def f_X10_grant (sh : List gb_Sh) (g : gb_G) (x1 : Int32) : Option (gb_G × Int32) := gb_let (gb_pi g 0 18 0) (fun g1 => some (g1, x1))
set_option maxRecDepth 100000 in
set_option maxHeartbeats 4000000 in
theorem t_X10_grant {Γ : gb_X} {sh : List gb_Sh} {x1 : Int32} {out : gb_G × Int32} (hS : gb_S sh) {g : gb_G} (h : f_X10_grant sh g x1 = some out) : gb_C Γ M_X10_grant 0 0 0 sh g [.ref 0, .int x1] (gb_Ri sh out) := by
  refine gb_C.of rfl (Nat.le_of_ble_eq_true rfl) ?_
  refine gb_pick (lv' := [(0, .ref 0), (1, .int x1)]) [0, 1] rfl ?_
  unfold f_X10_grant at h
  refine gb_aload_n d_X10_grant_0 rfl ?_
  refine gb_iconst 0 d_X10_grant_1 rfl ?_
  refine gb_puti f_X10_108 (fun h => nomatch h) (hS 0 _ rfl) rfl rfl rfl d_X10_grant_2 ?_
  have h := gb_let_e h
  generalize gb_pi g 0 18 0 = g1 at h ⊢
  refine gb_iload_n d_X10_grant_5 rfl ?_
  cases h
  exact gb_iret d_X10_grant_6 rfl ⟨rfl, rfl, rfl⟩
