-- X11_readPart
noncomputable def f_X11_readPart_99 (sh : List gb_Sh) (g : gb_G) (y1 : Int32) (z0 : Int32) (z1 : Int32) (z2 : Int32) : Option (gb_G × Int32) := gb_bd (f_X11_leaf sh g z2 z1 z0) (fun r5 => if (r5.1 77 20) = 0 then (some (r5, 3)) else (if y1 < 6 then (some (r5, 3)) else (if (r5.1 77 19) = 0 then (gb_bd (f_X11_number sh r5 0 7) (fun r7 => gb_ck ((r5.1 77 23) - 1) 400 (gb_let (gb_pi r7.1 89 (((r5.1 77 23) - 1).toNatClampNeg) r7.2) (fun g10 => some (g10, 3))))) else (some (r5, 3)))))
noncomputable def f_X11_readPart_86 (sh : List gb_Sh) (g : gb_G) (y1 : Int32) (y2 : Int32) (z0 : Int32) (z1 : Int32) : Option (gb_G × Int32) := if y2 = 0 then (f_X11_readPart_99 sh g y1 0 z0 z1) else (f_X11_readPart_99 sh g y1 ((g.2.1 77 17).toInt32) z0 z1)
noncomputable def f_X11_readPart_76 (sh : List gb_Sh) (g : gb_G) (y1 : Int32) (y2 : Int32) (z0 : Int32) : Option (gb_G × Int32) := if y1 = (-1) then (f_X11_readPart_86 sh g y1 y2 0 z0) else (f_X11_readPart_86 sh g y1 y2 y1 z0)
noncomputable def f_X11_readPart_60 (sh : List gb_Sh) (g : gb_G) (y1 : Int32) (z0 : Int32) : Option (gb_G × Int32) := if y1 = (-1) then (if z0 = 0 then (f_X11_readPart_76 sh g y1 z0 0) else (f_X11_readPart_76 sh g y1 z0 1)) else (f_X11_readPart_76 sh g y1 z0 1)
noncomputable def f_X11_readPart_35 (sh : List gb_Sh) (g : gb_G) (z0 : Int32) : Option (gb_G × Int32) := if (g.1 77 16) = 2 then (if 0 < (lg_cmp (g.2.1 77 17) 1000) then (f_X11_readPart_60 sh g z0 0) else (f_X11_readPart_60 sh g z0 1)) else (f_X11_readPart_60 sh g z0 0)
noncomputable def f_X11_readPart (sh : List gb_Sh) (g : gb_G) : Option (gb_G × Int32) := gb_bd (f_X11_isSign sh g 91) (fun r1 => if r1.2 = 0 then (if (r1.1.1 77 20) = 0 then (gb_bd (f_X11_partAt sh r1.1) (fun r3 => f_X11_readPart_35 sh r3.1 r3.2)) else (gb_bd (f_X11_orderPartAt sh r1.1) (fun r11 => f_X11_readPart_35 sh r11.1 r11.2))) else (gb_bd (f_X11_openBracket sh r1.1 32) (fun r13 => some (r13, 1))))
set_option maxRecDepth 100000 in
set_option maxHeartbeats 4000000 in
theorem t_X11_readPart_99 {Γ : gb_X} {sh : List gb_Sh} {out : gb_G × Int32} (hS : gb_S sh) : ∀ (g : gb_G) (y1 : Int32) (z0 : Int32) (z1 : Int32) (z2 : Int32), f_X11_readPart_99 sh g y1 z0 z1 z2 = some out → gb_J Γ M_X11_readPart 4 (gb_Ri sh out) 0 0 sh g 99 [(0, .ref 77), (1, .int y1)] [.int z0, .int z1, .int z2, .ref 77] := by
  intro g y1 z0 z1 z2 h
  unfold f_X11_readPart_99 at h
  obtain ⟨r5, e6, h⟩ := gb_bd_e h
  refine gb_cVv (As := [.int z2, .int z1, .int z0]) (rest := []) m_X11_311 (t_X11_leaf (Γ := Γ) hS e6) (hS 77 _ rfl) rfl (Nat.le_of_ble_eq_true rfl) rfl rfl (Nat.le_of_ble_eq_true rfl) d_X11_readPart_99 ?_
  refine gb_aload_n d_X11_readPart_102 rfl ?_
  refine gb_geti f_X11_299 (hS 77 _ rfl) rfl d_X11_readPart_103 ?_
  refine gb_if_eq 143 d_X11_readPart_106 (by decide) (fun hc => ?_) (fun hc => ?_)
  · have h := gb_it hc h
    refine gb_iconst 3 d_X11_readPart_143 rfl ?_
    cases h
    exact gb_iret d_X11_readPart_144 rfl ⟨rfl, rfl, rfl⟩
  · have h := gb_if hc h
    refine gb_iload_n d_X11_readPart_109 rfl ?_
    refine gb_bipush 6 d_X11_readPart_110 rfl ?_
    refine gb_icmp_lt 143 d_X11_readPart_112 (by decide) (fun hc => ?_) (fun hc => ?_)
    · have h := gb_it hc h
      refine gb_iconst 3 d_X11_readPart_143 rfl ?_
      cases h
      exact gb_iret d_X11_readPart_144 rfl ⟨rfl, rfl, rfl⟩
    · have h := gb_if hc h
      refine gb_aload_n d_X11_readPart_115 rfl ?_
      refine gb_geti f_X11_224 (hS 77 _ rfl) rfl d_X11_readPart_116 ?_
      refine gb_if_ne 143 d_X11_readPart_119 (by decide) (fun hc => ?_) (fun hc => ?_)
      · have h := gb_if hc h
        refine gb_iconst 3 d_X11_readPart_143 rfl ?_
        cases h
        exact gb_iret d_X11_readPart_144 rfl ⟨rfl, rfl, rfl⟩
      · have h := gb_it hc h
        refine gb_aload_n d_X11_readPart_122 rfl ?_
        refine gb_geti f_X11_261 (hS 77 _ rfl) rfl d_X11_readPart_123 ?_
        refine gb_iconst 1 d_X11_readPart_126 rfl ?_
        refine gb_isub d_X11_readPart_127 ?_
        refine gb_istore_n [(3, .int ((r5.1 77 23) - 1)), (0, .ref 77), (1, .int y1)] d_X11_readPart_128 (Nat.le_of_ble_eq_true rfl) rfl ?_
        refine gb_aload_n d_X11_readPart_129 rfl ?_
        refine gb_getr (r := 89) f_X11_48 (hS 77 _ rfl) rfl d_X11_readPart_130 ?_
        refine gb_iload_n d_X11_readPart_133 rfl ?_
        refine gb_aload_n d_X11_readPart_134 rfl ?_
        refine gb_lconst 0 d_X11_readPart_135 rfl ?_
        refine gb_ldc2 7 k_X11_315 d_X11_readPart_136 ?_
        obtain ⟨r7, e8, h⟩ := gb_bd_e h
        refine gb_cVi (As := [.long 0, .long 7]) (rest := [.int ((r5.1 77 23) - 1), .ref 89]) m_X11_317 (t_X11_number (Γ := Γ) hS e8) (hS 77 _ rfl) rfl (Nat.le_of_ble_eq_true rfl) rfl rfl (Nat.le_of_ble_eq_true rfl) d_X11_readPart_139 ?_
        obtain ⟨hi9, h⟩ := gb_ck_e h
        refine gb_iast_ (((r5.1 77 23) - 1).toNatClampNeg) rfl (hS 89 _ rfl) hi9 d_X11_readPart_142 ?_
        have h := gb_let_e h
        generalize gb_pi r7.1 89 (((r5.1 77 23) - 1).toNatClampNeg) r7.2 = g10 at h ⊢
        refine gb_iconst 3 d_X11_readPart_143 rfl ?_
        cases h
        exact gb_iret d_X11_readPart_144 rfl ⟨rfl, rfl, rfl⟩
set_option maxRecDepth 100000 in
set_option maxHeartbeats 4000000 in
theorem t_X11_readPart_86 {Γ : gb_X} {sh : List gb_Sh} {out : gb_G × Int32} (hS : gb_S sh) : ∀ (g : gb_G) (y1 : Int32) (y2 : Int32) (z0 : Int32) (z1 : Int32), f_X11_readPart_86 sh g y1 y2 z0 z1 = some out → gb_J Γ M_X11_readPart 4 (gb_Ri sh out) 0 0 sh g 86 [(0, .ref 77), (1, .int y1), (2, .int y2)] [.int z0, .int z1, .ref 77] := by
  intro g y1 y2 z0 z1 h
  unfold f_X11_readPart_86 at h
  refine gb_iload_n d_X11_readPart_86 rfl ?_
  refine gb_if_eq 98 d_X11_readPart_87 (by decide) (fun hc => ?_) (fun hc => ?_)
  · have h := gb_it hc h
    refine gb_iconst 0 d_X11_readPart_98 rfl ?_
    refine gb_pick (lv' := [(0, .ref 77), (1, .int y1)]) [0, 1] rfl ?_
    exact t_X11_readPart_99 hS  _ y1 0 z0 z1 h
  · have h := gb_if hc h
    refine gb_aload_n d_X11_readPart_90 rfl ?_
    refine gb_getl f_X11_234 (hS 77 _ rfl) rfl d_X11_readPart_91 ?_
    refine gb_l2i d_X11_readPart_94 ?_
    refine gb_goto 99 d_X11_readPart_95 (by decide) ?_
    refine gb_pick (lv' := [(0, .ref 77), (1, .int y1)]) [0, 1] rfl ?_
    exact t_X11_readPart_99 hS  _ y1 ((g.2.1 77 17).toInt32) z0 z1 h
set_option maxRecDepth 100000 in
set_option maxHeartbeats 4000000 in
theorem t_X11_readPart_76 {Γ : gb_X} {sh : List gb_Sh} {out : gb_G × Int32} (hS : gb_S sh) : ∀ (g : gb_G) (y1 : Int32) (y2 : Int32) (z0 : Int32), f_X11_readPart_76 sh g y1 y2 z0 = some out → gb_J Γ M_X11_readPart 4 (gb_Ri sh out) 0 0 sh g 76 [(0, .ref 77), (1, .int y1), (2, .int y2)] [.int z0, .ref 77] := by
  intro g y1 y2 z0 h
  unfold f_X11_readPart_76 at h
  refine gb_iload_n d_X11_readPart_76 rfl ?_
  refine gb_iconst (-1) d_X11_readPart_77 rfl ?_
  refine gb_icmp_ne 85 d_X11_readPart_78 (by decide) (fun hc => ?_) (fun hc => ?_)
  · have h := gb_if hc h
    refine gb_iload_n d_X11_readPart_85 rfl ?_
    exact t_X11_readPart_86 hS  _ y1 y2 y1 z0 h
  · have h := gb_it hc h
    refine gb_iconst 0 d_X11_readPart_81 rfl ?_
    refine gb_goto 86 d_X11_readPart_82 (by decide) ?_
    exact t_X11_readPart_86 hS  _ y1 y2 0 z0 h
set_option maxRecDepth 100000 in
set_option maxHeartbeats 4000000 in
theorem t_X11_readPart_60 {Γ : gb_X} {sh : List gb_Sh} {out : gb_G × Int32} (hS : gb_S sh) : ∀ (g : gb_G) (y1 : Int32) (z0 : Int32), f_X11_readPart_60 sh g y1 z0 = some out → gb_J Γ M_X11_readPart 4 (gb_Ri sh out) 0 0 sh g 60 [(0, .ref 77), (1, .int y1)] [.int z0] := by
  intro g y1 z0 h
  unfold f_X11_readPart_60 at h
  refine gb_istore_n [(2, .int z0), (0, .ref 77), (1, .int y1)] d_X11_readPart_60 (Nat.le_of_ble_eq_true rfl) rfl ?_
  refine gb_aload_n d_X11_readPart_61 rfl ?_
  refine gb_iload_n d_X11_readPart_62 rfl ?_
  refine gb_iconst (-1) d_X11_readPart_63 rfl ?_
  refine gb_icmp_ne 71 d_X11_readPart_64 (by decide) (fun hc => ?_) (fun hc => ?_)
  · have h := gb_if hc h
    refine gb_iconst 1 d_X11_readPart_71 rfl ?_
    refine gb_goto 76 d_X11_readPart_72 (by decide) ?_
    refine gb_pick (lv' := [(0, .ref 77), (1, .int y1), (2, .int z0)]) [1, 2, 0] rfl ?_
    exact t_X11_readPart_76 hS  _ y1 z0 1 h
  · have h := gb_it hc h
    refine gb_iload_n d_X11_readPart_67 rfl ?_
    refine gb_if_eq 75 d_X11_readPart_68 (by decide) (fun hc => ?_) (fun hc => ?_)
    · have h := gb_it hc h
      refine gb_iconst 0 d_X11_readPart_75 rfl ?_
      refine gb_pick (lv' := [(0, .ref 77), (1, .int y1), (2, .int z0)]) [1, 2, 0] rfl ?_
      exact t_X11_readPart_76 hS  _ y1 z0 0 h
    · have h := gb_if hc h
      refine gb_iconst 1 d_X11_readPart_71 rfl ?_
      refine gb_goto 76 d_X11_readPart_72 (by decide) ?_
      refine gb_pick (lv' := [(0, .ref 77), (1, .int y1), (2, .int z0)]) [1, 2, 0] rfl ?_
      exact t_X11_readPart_76 hS  _ y1 z0 1 h
set_option maxRecDepth 100000 in
set_option maxHeartbeats 4000000 in
theorem t_X11_readPart_35 {Γ : gb_X} {sh : List gb_Sh} {out : gb_G × Int32} (hS : gb_S sh) : ∀ (g : gb_G) (z0 : Int32), f_X11_readPart_35 sh g z0 = some out → gb_J Γ M_X11_readPart 4 (gb_Ri sh out) 0 0 sh g 35 [(0, .ref 77)] [.int z0] := by
  intro g z0 h
  unfold f_X11_readPart_35 at h
  refine gb_istore_n [(1, .int z0), (0, .ref 77)] d_X11_readPart_35 (Nat.le_of_ble_eq_true rfl) rfl ?_
  refine gb_aload_n d_X11_readPart_36 rfl ?_
  refine gb_geti f_X11_244 (hS 77 _ rfl) rfl d_X11_readPart_37 ?_
  refine gb_iconst 2 d_X11_readPart_40 rfl ?_
  refine gb_icmp_ne 59 d_X11_readPart_41 (by decide) (fun hc => ?_) (fun hc => ?_)
  · have h := gb_if hc h
    refine gb_iconst 0 d_X11_readPart_59 rfl ?_
    refine gb_pick (lv' := [(0, .ref 77), (1, .int z0)]) [1, 0] rfl ?_
    exact t_X11_readPart_60 hS  _ z0 0 h
  · have h := gb_it hc h
    refine gb_aload_n d_X11_readPart_44 rfl ?_
    refine gb_getl f_X11_234 (hS 77 _ rfl) rfl d_X11_readPart_45 ?_
    refine gb_ldc2 1000 k_X11_309 d_X11_readPart_48 ?_
    refine gb_lcmp d_X11_readPart_51 ?_
    refine gb_if_gt 59 d_X11_readPart_52 (by decide) (fun hc => ?_) (fun hc => ?_)
    · have h := gb_it hc h
      refine gb_iconst 0 d_X11_readPart_59 rfl ?_
      refine gb_pick (lv' := [(0, .ref 77), (1, .int z0)]) [1, 0] rfl ?_
      exact t_X11_readPart_60 hS  _ z0 0 h
    · have h := gb_if hc h
      refine gb_iconst 1 d_X11_readPart_55 rfl ?_
      refine gb_goto 60 d_X11_readPart_56 (by decide) ?_
      refine gb_pick (lv' := [(0, .ref 77), (1, .int z0)]) [1, 0] rfl ?_
      exact t_X11_readPart_60 hS  _ z0 1 h
set_option maxRecDepth 100000 in
set_option maxHeartbeats 4000000 in
theorem t_X11_readPart {Γ : gb_X} {sh : List gb_Sh} {out : gb_G × Int32} (hS : gb_S sh) {g : gb_G} (h : f_X11_readPart sh g = some out) : gb_C Γ M_X11_readPart 4 0 0 sh g [.ref 77] (gb_Ri sh out) := by
  refine gb_C.of rfl (Nat.le_of_ble_eq_true rfl) ?_
  refine gb_pick (lv' := [(0, .ref 77)]) [0] rfl ?_
  unfold f_X11_readPart at h
  refine gb_aload_n d_X11_readPart_0 rfl ?_
  refine gb_bipush 91 d_X11_readPart_1 rfl ?_
  obtain ⟨r1, e2, h⟩ := gb_bd_e h
  refine gb_cVi (As := [.int 91]) (rest := []) m_X11_293 (t_X11_isSign (Γ := Γ) hS e2) (hS 77 _ rfl) rfl (Nat.le_of_ble_eq_true rfl) rfl rfl (Nat.le_of_ble_eq_true rfl) d_X11_readPart_3 ?_
  refine gb_if_eq 17 d_X11_readPart_6 (by decide) (fun hc => ?_) (fun hc => ?_)
  · have h := gb_it hc h
    refine gb_aload_n d_X11_readPart_17 rfl ?_
    refine gb_geti f_X11_299 (hS 77 _ rfl) rfl d_X11_readPart_18 ?_
    refine gb_if_eq 31 d_X11_readPart_21 (by decide) (fun hc => ?_) (fun hc => ?_)
    · have h := gb_it hc h
      refine gb_aload_n d_X11_readPart_31 rfl ?_
      obtain ⟨r3, e4, h⟩ := gb_bd_e h
      refine gb_cVi (As := []) (rest := []) m_X11_306 (t_X11_partAt (Γ := Γ) hS e4) (hS 77 _ rfl) rfl (Nat.le_of_ble_eq_true rfl) rfl rfl (Nat.le_of_ble_eq_true rfl) d_X11_readPart_32 ?_
      exact t_X11_readPart_35 hS  _ r3.2 h
    · have h := gb_if hc h
      refine gb_aload_n d_X11_readPart_24 rfl ?_
      obtain ⟨r11, e12, h⟩ := gb_bd_e h
      refine gb_cVi (As := []) (rest := []) m_X11_302 (t_X11_orderPartAt (Γ := Γ) hS e12) (hS 77 _ rfl) rfl (Nat.le_of_ble_eq_true rfl) rfl rfl (Nat.le_of_ble_eq_true rfl) d_X11_readPart_25 ?_
      refine gb_goto 35 d_X11_readPart_28 (by decide) ?_
      exact t_X11_readPart_35 hS  _ r11.2 h
  · have h := gb_if hc h
    refine gb_aload_n d_X11_readPart_9 rfl ?_
    refine gb_bipush 32 d_X11_readPart_10 rfl ?_
    obtain ⟨r13, e14, h⟩ := gb_bd_e h
    refine gb_cVv (As := [.int 32]) (rest := []) m_X11_296 (t_X11_openBracket (Γ := Γ) hS e14) (hS 77 _ rfl) rfl (Nat.le_of_ble_eq_true rfl) rfl rfl (Nat.le_of_ble_eq_true rfl) d_X11_readPart_12 ?_
    refine gb_iconst 1 d_X11_readPart_15 rfl ?_
    cases h
    exact gb_iret d_X11_readPart_16 rfl ⟨rfl, rfl, rfl⟩
-- X11_readPlain
noncomputable def f_X11_readPlain (sh : List gb_Sh) (g : gb_G) : Option (gb_G × Int32) := gb_bd (f_X11_isWord sh g 14836) (fun r1 => if r1.2 = 0 then (gb_bd (f_X11_isSign sh r1.1 40) (fun r3 => if r3.2 = 0 then (gb_bd (f_X11_readPart sh r3.1) (fun r5 => some (r5.1, r5.2))) else (gb_bd (f_X11_openBracket sh r3.1 31) (fun r7 => some (r7, 0))))) else (gb_bd (f_X11_push sh r1.1 28 0) (fun r9 => gb_bd (f_X11_next sh r9) (fun r11 => some (r11, 0)))))
set_option maxRecDepth 100000 in
set_option maxHeartbeats 4000000 in
theorem t_X11_readPlain {Γ : gb_X} {sh : List gb_Sh} {out : gb_G × Int32} (hS : gb_S sh) {g : gb_G} (h : f_X11_readPlain sh g = some out) : gb_C Γ M_X11_readPlain 5 0 0 sh g [.ref 77] (gb_Ri sh out) := by
  refine gb_C.of rfl (Nat.le_of_ble_eq_true rfl) ?_
  refine gb_pick (lv' := [(0, .ref 77)]) [0] rfl ?_
  unfold f_X11_readPlain at h
  refine gb_aload_n d_X11_readPlain_0 rfl ?_
  refine gb_ldc2 14836 k_X11_321 d_X11_readPlain_1 ?_
  obtain ⟨r1, e2, h⟩ := gb_bd_e h
  refine gb_cVi (As := [.long 14836]) (rest := []) m_X11_280 (t_X11_isWord (Γ := Γ) hS e2) (hS 77 _ rfl) rfl (Nat.le_of_ble_eq_true rfl) rfl rfl (Nat.le_of_ble_eq_true rfl) d_X11_readPlain_4 ?_
  refine gb_if_eq 23 d_X11_readPlain_7 (by decide) (fun hc => ?_) (fun hc => ?_)
  · have h := gb_it hc h
    refine gb_aload_n d_X11_readPlain_23 rfl ?_
    refine gb_bipush 40 d_X11_readPlain_24 rfl ?_
    obtain ⟨r3, e4, h⟩ := gb_bd_e h
    refine gb_cVi (As := [.int 40]) (rest := []) m_X11_293 (t_X11_isSign (Γ := Γ) hS e4) (hS 77 _ rfl) rfl (Nat.le_of_ble_eq_true rfl) rfl rfl (Nat.le_of_ble_eq_true rfl) d_X11_readPlain_26 ?_
    refine gb_if_eq 40 d_X11_readPlain_29 (by decide) (fun hc => ?_) (fun hc => ?_)
    · have h := gb_it hc h
      refine gb_aload_n d_X11_readPlain_40 rfl ?_
      obtain ⟨r5, e6, h⟩ := gb_bd_e h
      refine gb_cVi (As := []) (rest := []) m_X11_323 (t_X11_readPart (Γ := Γ) hS e6) (hS 77 _ rfl) rfl (Nat.le_of_ble_eq_true rfl) rfl rfl (Nat.le_of_ble_eq_true rfl) d_X11_readPlain_41 ?_
      cases h
      exact gb_iret d_X11_readPlain_44 rfl ⟨rfl, rfl, rfl⟩
    · have h := gb_if hc h
      refine gb_aload_n d_X11_readPlain_32 rfl ?_
      refine gb_bipush 31 d_X11_readPlain_33 rfl ?_
      obtain ⟨r7, e8, h⟩ := gb_bd_e h
      refine gb_cVv (As := [.int 31]) (rest := []) m_X11_296 (t_X11_openBracket (Γ := Γ) hS e8) (hS 77 _ rfl) rfl (Nat.le_of_ble_eq_true rfl) rfl rfl (Nat.le_of_ble_eq_true rfl) d_X11_readPlain_35 ?_
      refine gb_iconst 0 d_X11_readPlain_38 rfl ?_
      cases h
      exact gb_iret d_X11_readPlain_39 rfl ⟨rfl, rfl, rfl⟩
  · have h := gb_if hc h
    refine gb_aload_n d_X11_readPlain_10 rfl ?_
    refine gb_bipush 28 d_X11_readPlain_11 rfl ?_
    refine gb_iconst 0 d_X11_readPlain_13 rfl ?_
    obtain ⟨r9, e10, h⟩ := gb_bd_e h
    refine gb_cVv (As := [.int 28, .int 0]) (rest := []) m_X11_287 (t_X11_push (Γ := Γ) hS e10) (hS 77 _ rfl) rfl (Nat.le_of_ble_eq_true rfl) rfl rfl (Nat.le_of_ble_eq_true rfl) d_X11_readPlain_14 ?_
    refine gb_aload_n d_X11_readPlain_17 rfl ?_
    obtain ⟨r11, e12, h⟩ := gb_bd_e h
    refine gb_cVv (As := []) (rest := []) m_X11_228 (t_X11_next (Γ := Γ) hS e12) (hS 77 _ rfl) rfl (Nat.le_of_ble_eq_true rfl) rfl rfl (Nat.le_of_ble_eq_true rfl) d_X11_readPlain_18 ?_
    refine gb_iconst 0 d_X11_readPlain_21 rfl ?_
    cases h
    exact gb_iret d_X11_readPlain_22 rfl ⟨rfl, rfl, rfl⟩
-- X11_behindSum
noncomputable def f_X11_behindSum_224 (sh : List gb_Sh) (g : gb_G) (y2 : Int32) (z0 : Int32) : Option (gb_G × Int32) := gb_bd (f_X11_must sh g z0) (fun r19 => if (r19.1 77 19) = 0 then (gb_bd (f_X11_settle sh r19 5) (fun r21 => gb_bd (f_X11_push sh r21 y2 0) (fun r23 => some (r23, 1)))) else (some (r19, 1)))
noncomputable def f_X11_behindSum_202 (sh : List gb_Sh) (g : gb_G) (z0 : Int32) : Option (gb_G × Int32) := if z0 = 27 then (gb_bd (f_X11_isSign sh g 61) (fun r25 => if r25.2 = 0 then (f_X11_behindSum_224 sh r25.1 z0 0) else (f_X11_behindSum_224 sh r25.1 z0 1))) else (f_X11_behindSum_224 sh g z0 1)
noncomputable def f_X11_behindSum_163 (sh : List gb_Sh) (g : gb_G)  : Option (gb_G × Int32) := gb_bd (f_X11_isCompared sh g) (fun r13 => if r13.2 = 0 then (gb_bd (f_X11_isSign sh r13.1 60) (fun r15 => if r15.2 = 0 then (gb_bd (f_X11_isSign sh r15.1 62) (fun r17 => if r17.2 = 0 then (f_X11_behindSum_202 sh r17.1 27) else (f_X11_behindSum_202 sh r17.1 26))) else (f_X11_behindSum_202 sh r15.1 25))) else (some (r13.1, 2)))
noncomputable def f_X11_behindSum_71 (sh : List gb_Sh) (g : gb_G) (y1 : Int32) (z0 : Int32) : Option (gb_G × Int32) := if z0 = (-1) then (gb_bd (f_X11_inner sh g) (fun r11 => if r11.2 = 32 then (gb_bd (f_X11_isSign sh r11.1 93) (fun r27 => gb_bd (f_X11_must sh r27.1 r27.2) (fun r29 => if (r29.1 77 19) = 0 then (gb_bd (f_X11_settle sh r29 5) (fun r31 => gb_let (gb_pi r31 77 29 ((r31.1 77 29) - 1)) (fun g33 => gb_let (gb_pi g33 77 30 ((g33.1 77 30) - 1)) (fun g34 => some (g34, 3))))) else (some (r29, 3))))) else (if r11.2 = (-1) then (if y1 = 0 then (some (r11.1, 4)) else (f_X11_behindSum_163 sh r11.1 )) else (f_X11_behindSum_163 sh r11.1 )))) else (gb_bd (f_X11_binds sh g z0) (fun r35 => gb_bd (f_X11_settle sh r35.1 r35.2) (fun r37 => gb_bd (f_X11_push sh r37 z0 0) (fun r39 => gb_bd (f_X11_next sh r39) (fun r41 => some (r41, 1))))))
noncomputable def f_X11_behindSum (sh : List gb_Sh) (g : gb_G) (x1 : Int32) : Option (gb_G × Int32) := gb_bd (f_X11_isSign sh g 43) (fun r1 => if r1.2 = 0 then (gb_bd (f_X11_isSign sh r1.1 45) (fun r3 => if r3.2 = 0 then (gb_bd (f_X11_isSign sh r3.1 42) (fun r5 => if r5.2 = 0 then (gb_bd (f_X11_isSign sh r5.1 47) (fun r7 => if r7.2 = 0 then (gb_bd (f_X11_isSign sh r7.1 37) (fun r9 => if r9.2 = 0 then (f_X11_behindSum_71 sh r9.1 x1 (-1)) else (f_X11_behindSum_71 sh r9.1 x1 24))) else (f_X11_behindSum_71 sh r7.1 x1 23))) else (f_X11_behindSum_71 sh r5.1 x1 22))) else (f_X11_behindSum_71 sh r3.1 x1 21))) else (f_X11_behindSum_71 sh r1.1 x1 20))
set_option maxRecDepth 100000 in
set_option maxHeartbeats 4000000 in
theorem t_X11_behindSum_224 {Γ : gb_X} {sh : List gb_Sh} {out : gb_G × Int32} (hS : gb_S sh) : ∀ (g : gb_G) (y2 : Int32) (z0 : Int32), f_X11_behindSum_224 sh g y2 z0 = some out → gb_J Γ M_X11_behindSum 3 (gb_Ri sh out) 0 0 sh g 224 [(0, .ref 77), (2, .int y2)] [.int z0, .ref 77] := by
  intro g y2 z0 h
  unfold f_X11_behindSum_224 at h
  obtain ⟨r19, e20, h⟩ := gb_bd_e h
  refine gb_cVv (As := [.int z0]) (rest := []) m_X11_257 (t_X11_must (Γ := Γ) hS e20) (hS 77 _ rfl) rfl (Nat.le_of_ble_eq_true rfl) rfl rfl (Nat.le_of_ble_eq_true rfl) d_X11_behindSum_224 ?_
  refine gb_aload_n d_X11_behindSum_227 rfl ?_
  refine gb_geti f_X11_224 (hS 77 _ rfl) rfl d_X11_behindSum_228 ?_
  refine gb_if_ne 245 d_X11_behindSum_231 (by decide) (fun hc => ?_) (fun hc => ?_)
  · have h := gb_if hc h
    refine gb_iconst 1 d_X11_behindSum_245 rfl ?_
    cases h
    exact gb_iret d_X11_behindSum_246 rfl ⟨rfl, rfl, rfl⟩
  · have h := gb_it hc h
    refine gb_aload_n d_X11_behindSum_234 rfl ?_
    refine gb_iconst 5 d_X11_behindSum_235 rfl ?_
    obtain ⟨r21, e22, h⟩ := gb_bd_e h
    refine gb_cVv (As := [.int 5]) (rest := []) m_X11_326 (t_X11_settle (Γ := Γ) hS e22) (hS 77 _ rfl) rfl (Nat.le_of_ble_eq_true rfl) rfl rfl (Nat.le_of_ble_eq_true rfl) d_X11_behindSum_236 ?_
    refine gb_aload_n d_X11_behindSum_239 rfl ?_
    refine gb_iload_n d_X11_behindSum_240 rfl ?_
    refine gb_iconst 0 d_X11_behindSum_241 rfl ?_
    obtain ⟨r23, e24, h⟩ := gb_bd_e h
    refine gb_cVv (As := [.int y2, .int 0]) (rest := []) m_X11_287 (t_X11_push (Γ := Γ) hS e24) (hS 77 _ rfl) rfl (Nat.le_of_ble_eq_true rfl) rfl rfl (Nat.le_of_ble_eq_true rfl) d_X11_behindSum_242 ?_
    refine gb_iconst 1 d_X11_behindSum_245 rfl ?_
    cases h
    exact gb_iret d_X11_behindSum_246 rfl ⟨rfl, rfl, rfl⟩
set_option maxRecDepth 100000 in
set_option maxHeartbeats 4000000 in
theorem t_X11_behindSum_202 {Γ : gb_X} {sh : List gb_Sh} {out : gb_G × Int32} (hS : gb_S sh) : ∀ (g : gb_G) (z0 : Int32), f_X11_behindSum_202 sh g z0 = some out → gb_J Γ M_X11_behindSum 3 (gb_Ri sh out) 0 0 sh g 202 [(0, .ref 77)] [.int z0] := by
  intro g z0 h
  unfold f_X11_behindSum_202 at h
  refine gb_istore_n [(2, .int z0), (0, .ref 77)] d_X11_behindSum_202 (Nat.le_of_ble_eq_true rfl) rfl ?_
  refine gb_aload_n d_X11_behindSum_203 rfl ?_
  refine gb_iload_n d_X11_behindSum_204 rfl ?_
  refine gb_bipush 27 d_X11_behindSum_205 rfl ?_
  refine gb_icmp_ne 219 d_X11_behindSum_207 (by decide) (fun hc => ?_) (fun hc => ?_)
  · have h := gb_if hc h
    refine gb_iconst 1 d_X11_behindSum_219 rfl ?_
    refine gb_goto 224 d_X11_behindSum_220 (by decide) ?_
    refine gb_pick (lv' := [(0, .ref 77), (2, .int z0)]) [1, 0] rfl ?_
    exact t_X11_behindSum_224 hS  _ z0 1 h
  · have h := gb_it hc h
    refine gb_aload_n d_X11_behindSum_210 rfl ?_
    refine gb_bipush 61 d_X11_behindSum_211 rfl ?_
    obtain ⟨r25, e26, h⟩ := gb_bd_e h
    refine gb_cVi (As := [.int 61]) (rest := [.ref 77]) m_X11_293 (t_X11_isSign (Γ := Γ) hS e26) (hS 77 _ rfl) rfl (Nat.le_of_ble_eq_true rfl) rfl rfl (Nat.le_of_ble_eq_true rfl) d_X11_behindSum_213 ?_
    refine gb_if_eq 223 d_X11_behindSum_216 (by decide) (fun hc => ?_) (fun hc => ?_)
    · have h := gb_it hc h
      refine gb_iconst 0 d_X11_behindSum_223 rfl ?_
      refine gb_pick (lv' := [(0, .ref 77), (2, .int z0)]) [1, 0] rfl ?_
      exact t_X11_behindSum_224 hS  _ z0 0 h
    · have h := gb_if hc h
      refine gb_iconst 1 d_X11_behindSum_219 rfl ?_
      refine gb_goto 224 d_X11_behindSum_220 (by decide) ?_
      refine gb_pick (lv' := [(0, .ref 77), (2, .int z0)]) [1, 0] rfl ?_
      exact t_X11_behindSum_224 hS  _ z0 1 h
set_option maxRecDepth 100000 in
set_option maxHeartbeats 4000000 in
theorem t_X11_behindSum_163 {Γ : gb_X} {sh : List gb_Sh} {out : gb_G × Int32} (hS : gb_S sh) : ∀ (g : gb_G) , f_X11_behindSum_163 sh g  = some out → gb_J Γ M_X11_behindSum 3 (gb_Ri sh out) 0 0 sh g 163 [(0, .ref 77)] [] := by
  intro g  h
  unfold f_X11_behindSum_163 at h
  refine gb_aload_n d_X11_behindSum_163 rfl ?_
  obtain ⟨r13, e14, h⟩ := gb_bd_e h
  refine gb_cVi (As := []) (rest := []) m_X11_332 (t_X11_isCompared (Γ := Γ) hS e14) (hS 77 _ rfl) rfl (Nat.le_of_ble_eq_true rfl) rfl rfl (Nat.le_of_ble_eq_true rfl) d_X11_behindSum_164 ?_
  refine gb_if_eq 172 d_X11_behindSum_167 (by decide) (fun hc => ?_) (fun hc => ?_)
  · have h := gb_it hc h
    refine gb_aload_n d_X11_behindSum_172 rfl ?_
    refine gb_bipush 60 d_X11_behindSum_173 rfl ?_
    obtain ⟨r15, e16, h⟩ := gb_bd_e h
    refine gb_cVi (As := [.int 60]) (rest := []) m_X11_293 (t_X11_isSign (Γ := Γ) hS e16) (hS 77 _ rfl) rfl (Nat.le_of_ble_eq_true rfl) rfl rfl (Nat.le_of_ble_eq_true rfl) d_X11_behindSum_175 ?_
    refine gb_if_eq 186 d_X11_behindSum_178 (by decide) (fun hc => ?_) (fun hc => ?_)
    · have h := gb_it hc h
      refine gb_aload_n d_X11_behindSum_186 rfl ?_
      refine gb_bipush 62 d_X11_behindSum_187 rfl ?_
      obtain ⟨r17, e18, h⟩ := gb_bd_e h
      refine gb_cVi (As := [.int 62]) (rest := []) m_X11_293 (t_X11_isSign (Γ := Γ) hS e18) (hS 77 _ rfl) rfl (Nat.le_of_ble_eq_true rfl) rfl rfl (Nat.le_of_ble_eq_true rfl) d_X11_behindSum_189 ?_
      refine gb_if_eq 200 d_X11_behindSum_192 (by decide) (fun hc => ?_) (fun hc => ?_)
      · have h := gb_it hc h
        refine gb_bipush 27 d_X11_behindSum_200 rfl ?_
        exact t_X11_behindSum_202 hS  _ 27 h
      · have h := gb_if hc h
        refine gb_bipush 26 d_X11_behindSum_195 rfl ?_
        refine gb_goto 202 d_X11_behindSum_197 (by decide) ?_
        exact t_X11_behindSum_202 hS  _ 26 h
    · have h := gb_if hc h
      refine gb_bipush 25 d_X11_behindSum_181 rfl ?_
      refine gb_goto 202 d_X11_behindSum_183 (by decide) ?_
      exact t_X11_behindSum_202 hS  _ 25 h
  · have h := gb_if hc h
    refine gb_iconst 2 d_X11_behindSum_170 rfl ?_
    cases h
    exact gb_iret d_X11_behindSum_171 rfl ⟨rfl, rfl, rfl⟩
set_option maxRecDepth 100000 in
set_option maxHeartbeats 4000000 in
theorem t_X11_behindSum_71 {Γ : gb_X} {sh : List gb_Sh} {out : gb_G × Int32} (hS : gb_S sh) : ∀ (g : gb_G) (y1 : Int32) (z0 : Int32), f_X11_behindSum_71 sh g y1 z0 = some out → gb_J Γ M_X11_behindSum 3 (gb_Ri sh out) 0 0 sh g 71 [(0, .ref 77), (1, .int y1)] [.int z0] := by
  intro g y1 z0 h
  unfold f_X11_behindSum_71 at h
  refine gb_istore_n [(2, .int z0), (0, .ref 77), (1, .int y1)] d_X11_behindSum_71 (Nat.le_of_ble_eq_true rfl) rfl ?_
  refine gb_iload_n d_X11_behindSum_72 rfl ?_
  refine gb_iconst (-1) d_X11_behindSum_73 rfl ?_
  refine gb_icmp_eq 97 d_X11_behindSum_74 (by decide) (fun hc => ?_) (fun hc => ?_)
  · have h := gb_it hc h
    refine gb_aload_n d_X11_behindSum_97 rfl ?_
    obtain ⟨r11, e12, h⟩ := gb_bd_e h
    refine gb_cVi (As := []) (rest := []) m_X11_329 (t_X11_inner (Γ := Γ) hS e12) (hS 77 _ rfl) rfl (Nat.le_of_ble_eq_true rfl) rfl rfl (Nat.le_of_ble_eq_true rfl) d_X11_behindSum_98 ?_
    refine gb_istore_n [(3, .int r11.2), (2, .int z0), (0, .ref 77), (1, .int y1)] d_X11_behindSum_101 (Nat.le_of_ble_eq_true rfl) rfl ?_
    refine gb_iload_n d_X11_behindSum_102 rfl ?_
    refine gb_bipush 32 d_X11_behindSum_103 rfl ?_
    refine gb_icmp_ne 152 d_X11_behindSum_105 (by decide) (fun hc => ?_) (fun hc => ?_)
    · have h := gb_if hc h
      refine gb_iload_n d_X11_behindSum_152 rfl ?_
      refine gb_iconst (-1) d_X11_behindSum_153 rfl ?_
      refine gb_icmp_ne 163 d_X11_behindSum_154 (by decide) (fun hc => ?_) (fun hc => ?_)
      · have h := gb_if hc h
        refine gb_pick (lv' := [(0, .ref 77)]) [2] rfl ?_
        exact t_X11_behindSum_163 hS  _  h
      · have h := gb_it hc h
        refine gb_iload_n d_X11_behindSum_157 rfl ?_
        refine gb_if_ne 163 d_X11_behindSum_158 (by decide) (fun hc => ?_) (fun hc => ?_)
        · have h := gb_if hc h
          refine gb_pick (lv' := [(0, .ref 77)]) [2] rfl ?_
          exact t_X11_behindSum_163 hS  _  h
        · have h := gb_it hc h
          refine gb_iconst 4 d_X11_behindSum_161 rfl ?_
          cases h
          exact gb_iret d_X11_behindSum_162 rfl ⟨rfl, rfl, rfl⟩
    · have h := gb_it hc h
      refine gb_aload_n d_X11_behindSum_108 rfl ?_
      refine gb_aload_n d_X11_behindSum_109 rfl ?_
      refine gb_bipush 93 d_X11_behindSum_110 rfl ?_
      obtain ⟨r27, e28, h⟩ := gb_bd_e h
      refine gb_cVi (As := [.int 93]) (rest := [.ref 77]) m_X11_293 (t_X11_isSign (Γ := Γ) hS e28) (hS 77 _ rfl) rfl (Nat.le_of_ble_eq_true rfl) rfl rfl (Nat.le_of_ble_eq_true rfl) d_X11_behindSum_112 ?_
      obtain ⟨r29, e30, h⟩ := gb_bd_e h
      refine gb_cVv (As := [.int r27.2]) (rest := []) m_X11_257 (t_X11_must (Γ := Γ) hS e30) (hS 77 _ rfl) rfl (Nat.le_of_ble_eq_true rfl) rfl rfl (Nat.le_of_ble_eq_true rfl) d_X11_behindSum_115 ?_
      refine gb_aload_n d_X11_behindSum_118 rfl ?_
      refine gb_geti f_X11_224 (hS 77 _ rfl) rfl d_X11_behindSum_119 ?_
      refine gb_if_ne 150 d_X11_behindSum_122 (by decide) (fun hc => ?_) (fun hc => ?_)
      · have h := gb_if hc h
        refine gb_iconst 3 d_X11_behindSum_150 rfl ?_
        cases h
        exact gb_iret d_X11_behindSum_151 rfl ⟨rfl, rfl, rfl⟩
      · have h := gb_it hc h
        refine gb_aload_n d_X11_behindSum_125 rfl ?_
        refine gb_iconst 5 d_X11_behindSum_126 rfl ?_
        obtain ⟨r31, e32, h⟩ := gb_bd_e h
        refine gb_cVv (As := [.int 5]) (rest := []) m_X11_326 (t_X11_settle (Γ := Γ) hS e32) (hS 77 _ rfl) rfl (Nat.le_of_ble_eq_true rfl) rfl rfl (Nat.le_of_ble_eq_true rfl) d_X11_behindSum_127 ?_
        refine gb_aload_n d_X11_behindSum_130 rfl ?_
        refine gb_dup d_X11_behindSum_131 rfl ?_
        refine gb_geti f_X11_264 (hS 77 _ rfl) rfl d_X11_behindSum_132 ?_
        refine gb_iconst 1 d_X11_behindSum_135 rfl ?_
        refine gb_isub d_X11_behindSum_136 ?_
        refine gb_puti f_X11_264 (fun h => nomatch h) (hS 77 _ rfl) rfl rfl rfl d_X11_behindSum_137 ?_
        have h := gb_let_e h
        generalize gb_pi r31 77 29 ((r31.1 77 29) - 1) = g33 at h ⊢
        refine gb_aload_n d_X11_behindSum_140 rfl ?_
        refine gb_dup d_X11_behindSum_141 rfl ?_
        refine gb_geti f_X11_284 (hS 77 _ rfl) rfl d_X11_behindSum_142 ?_
        refine gb_iconst 1 d_X11_behindSum_145 rfl ?_
        refine gb_isub d_X11_behindSum_146 ?_
        refine gb_puti f_X11_284 (fun h => nomatch h) (hS 77 _ rfl) rfl rfl rfl d_X11_behindSum_147 ?_
        have h := gb_let_e h
        generalize gb_pi g33 77 30 ((g33.1 77 30) - 1) = g34 at h ⊢
        refine gb_iconst 3 d_X11_behindSum_150 rfl ?_
        cases h
        exact gb_iret d_X11_behindSum_151 rfl ⟨rfl, rfl, rfl⟩
  · have h := gb_if hc h
    refine gb_aload_n d_X11_behindSum_77 rfl ?_
    refine gb_iload_n d_X11_behindSum_78 rfl ?_
    obtain ⟨r35, e36, h⟩ := gb_bd_e h
    refine gb_cSi (As := [.int z0]) (rest := [.ref 77]) m_X11_267 (t_X11_binds (Γ := Γ) hS e36) (Nat.le_of_ble_eq_true rfl) rfl rfl (Nat.le_of_ble_eq_true rfl) d_X11_behindSum_79 ?_
    obtain ⟨r37, e38, h⟩ := gb_bd_e h
    refine gb_cVv (As := [.int r35.2]) (rest := []) m_X11_326 (t_X11_settle (Γ := Γ) hS e38) (hS 77 _ rfl) rfl (Nat.le_of_ble_eq_true rfl) rfl rfl (Nat.le_of_ble_eq_true rfl) d_X11_behindSum_82 ?_
    refine gb_aload_n d_X11_behindSum_85 rfl ?_
    refine gb_iload_n d_X11_behindSum_86 rfl ?_
    refine gb_iconst 0 d_X11_behindSum_87 rfl ?_
    obtain ⟨r39, e40, h⟩ := gb_bd_e h
    refine gb_cVv (As := [.int z0, .int 0]) (rest := []) m_X11_287 (t_X11_push (Γ := Γ) hS e40) (hS 77 _ rfl) rfl (Nat.le_of_ble_eq_true rfl) rfl rfl (Nat.le_of_ble_eq_true rfl) d_X11_behindSum_88 ?_
    refine gb_aload_n d_X11_behindSum_91 rfl ?_
    obtain ⟨r41, e42, h⟩ := gb_bd_e h
    refine gb_cVv (As := []) (rest := []) m_X11_228 (t_X11_next (Γ := Γ) hS e42) (hS 77 _ rfl) rfl (Nat.le_of_ble_eq_true rfl) rfl rfl (Nat.le_of_ble_eq_true rfl) d_X11_behindSum_92 ?_
    refine gb_iconst 1 d_X11_behindSum_95 rfl ?_
    cases h
    exact gb_iret d_X11_behindSum_96 rfl ⟨rfl, rfl, rfl⟩
set_option maxRecDepth 100000 in
set_option maxHeartbeats 4000000 in
theorem t_X11_behindSum {Γ : gb_X} {sh : List gb_Sh} {x1 : Int32} {out : gb_G × Int32} (hS : gb_S sh) {g : gb_G} (h : f_X11_behindSum sh g x1 = some out) : gb_C Γ M_X11_behindSum 3 0 0 sh g [.ref 77, .int x1] (gb_Ri sh out) := by
  refine gb_C.of rfl (Nat.le_of_ble_eq_true rfl) ?_
  refine gb_pick (lv' := [(0, .ref 77), (1, .int x1)]) [0, 1] rfl ?_
  unfold f_X11_behindSum at h
  refine gb_aload_n d_X11_behindSum_0 rfl ?_
  refine gb_bipush 43 d_X11_behindSum_1 rfl ?_
  obtain ⟨r1, e2, h⟩ := gb_bd_e h
  refine gb_cVi (As := [.int 43]) (rest := []) m_X11_293 (t_X11_isSign (Γ := Γ) hS e2) (hS 77 _ rfl) rfl (Nat.le_of_ble_eq_true rfl) rfl rfl (Nat.le_of_ble_eq_true rfl) d_X11_behindSum_3 ?_
  refine gb_if_eq 14 d_X11_behindSum_6 (by decide) (fun hc => ?_) (fun hc => ?_)
  · have h := gb_it hc h
    refine gb_aload_n d_X11_behindSum_14 rfl ?_
    refine gb_bipush 45 d_X11_behindSum_15 rfl ?_
    obtain ⟨r3, e4, h⟩ := gb_bd_e h
    refine gb_cVi (As := [.int 45]) (rest := []) m_X11_293 (t_X11_isSign (Γ := Γ) hS e4) (hS 77 _ rfl) rfl (Nat.le_of_ble_eq_true rfl) rfl rfl (Nat.le_of_ble_eq_true rfl) d_X11_behindSum_17 ?_
    refine gb_if_eq 28 d_X11_behindSum_20 (by decide) (fun hc => ?_) (fun hc => ?_)
    · have h := gb_it hc h
      refine gb_aload_n d_X11_behindSum_28 rfl ?_
      refine gb_bipush 42 d_X11_behindSum_29 rfl ?_
      obtain ⟨r5, e6, h⟩ := gb_bd_e h
      refine gb_cVi (As := [.int 42]) (rest := []) m_X11_293 (t_X11_isSign (Γ := Γ) hS e6) (hS 77 _ rfl) rfl (Nat.le_of_ble_eq_true rfl) rfl rfl (Nat.le_of_ble_eq_true rfl) d_X11_behindSum_31 ?_
      refine gb_if_eq 42 d_X11_behindSum_34 (by decide) (fun hc => ?_) (fun hc => ?_)
      · have h := gb_it hc h
        refine gb_aload_n d_X11_behindSum_42 rfl ?_
        refine gb_bipush 47 d_X11_behindSum_43 rfl ?_
        obtain ⟨r7, e8, h⟩ := gb_bd_e h
        refine gb_cVi (As := [.int 47]) (rest := []) m_X11_293 (t_X11_isSign (Γ := Γ) hS e8) (hS 77 _ rfl) rfl (Nat.le_of_ble_eq_true rfl) rfl rfl (Nat.le_of_ble_eq_true rfl) d_X11_behindSum_45 ?_
        refine gb_if_eq 56 d_X11_behindSum_48 (by decide) (fun hc => ?_) (fun hc => ?_)
        · have h := gb_it hc h
          refine gb_aload_n d_X11_behindSum_56 rfl ?_
          refine gb_bipush 37 d_X11_behindSum_57 rfl ?_
          obtain ⟨r9, e10, h⟩ := gb_bd_e h
          refine gb_cVi (As := [.int 37]) (rest := []) m_X11_293 (t_X11_isSign (Γ := Γ) hS e10) (hS 77 _ rfl) rfl (Nat.le_of_ble_eq_true rfl) rfl rfl (Nat.le_of_ble_eq_true rfl) d_X11_behindSum_59 ?_
          refine gb_if_eq 70 d_X11_behindSum_62 (by decide) (fun hc => ?_) (fun hc => ?_)
          · have h := gb_it hc h
            refine gb_iconst (-1) d_X11_behindSum_70 rfl ?_
            exact t_X11_behindSum_71 hS  _ x1 (-1) h
          · have h := gb_if hc h
            refine gb_bipush 24 d_X11_behindSum_65 rfl ?_
            refine gb_goto 71 d_X11_behindSum_67 (by decide) ?_
            exact t_X11_behindSum_71 hS  _ x1 24 h
        · have h := gb_if hc h
          refine gb_bipush 23 d_X11_behindSum_51 rfl ?_
          refine gb_goto 71 d_X11_behindSum_53 (by decide) ?_
          exact t_X11_behindSum_71 hS  _ x1 23 h
      · have h := gb_if hc h
        refine gb_bipush 22 d_X11_behindSum_37 rfl ?_
        refine gb_goto 71 d_X11_behindSum_39 (by decide) ?_
        exact t_X11_behindSum_71 hS  _ x1 22 h
    · have h := gb_if hc h
      refine gb_bipush 21 d_X11_behindSum_23 rfl ?_
      refine gb_goto 71 d_X11_behindSum_25 (by decide) ?_
      exact t_X11_behindSum_71 hS  _ x1 21 h
  · have h := gb_if hc h
    refine gb_bipush 20 d_X11_behindSum_9 rfl ?_
    refine gb_goto 71 d_X11_behindSum_11 (by decide) ?_
    exact t_X11_behindSum_71 hS  _ x1 20 h
-- X11_behindTest
noncomputable def f_X11_behindTest_66 (sh : List gb_Sh) (g : gb_G) (z0 : Int32) : Option (gb_G × Int32) := gb_bd (f_X11_emit sh g z0 0) (fun r7 => gb_bd (f_X11_next sh r7) (fun r9 => some (r9, 0)))
noncomputable def f_X11_behindTest_47 (sh : List gb_Sh) (g : gb_G) (y1 : Int32) (z0 : Int32) : Option (gb_G × Int32) := gb_bd (f_X11_push sh g z0 (g.1 77 23)) (fun r5 => if y1 = 0 then (f_X11_behindTest_66 sh r5 30) else (f_X11_behindTest_66 sh r5 29))
noncomputable def f_X11_behindTest_32 (sh : List gb_Sh) (g : gb_G) (y1 : Int32) (z0 : Int32) : Option (gb_G × Int32) := gb_bd (f_X11_settle sh g z0) (fun r3 => if y1 = 0 then (f_X11_behindTest_47 sh r3 y1 30) else (f_X11_behindTest_47 sh r3 y1 29))
noncomputable def f_X11_behindTest_22 (sh : List gb_Sh) (g : gb_G) (y1 : Int32) : Option (gb_G × Int32) := if y1 = 0 then (f_X11_behindTest_32 sh g y1 1) else (f_X11_behindTest_32 sh g y1 2)
noncomputable def f_X11_behindTest (sh : List gb_Sh) (g : gb_G) : Option (gb_G × Int32) := gb_bd (f_X11_isWord sh g 1476) (fun r1 => if r1.2 = 0 then (gb_bd (f_X11_isWord sh r1.1 498) (fun r11 => if r11.2 = 0 then (gb_bd (f_X11_inner sh r11.1) (fun r13 => if r13.2 = (-1) then (some (r13.1, 4)) else (gb_bd (f_X11_isSign sh r13.1 41) (fun r15 => gb_bd (f_X11_must sh r15.1 r15.2) (fun r17 => if (r17.1 77 19) = 0 then (gb_bd (f_X11_settle sh r17 1) (fun r19 => gb_let (gb_pi r19 77 29 ((r19.1 77 29) - 1)) (fun g21 => gb_let (gb_pi g21 77 30 ((g21.1 77 30) - 1)) (fun g22 => some (g22, 2))))) else (some (r17, 2))))))) else (f_X11_behindTest_22 sh r11.1 r1.2))) else (f_X11_behindTest_22 sh r1.1 r1.2))
set_option maxRecDepth 100000 in
set_option maxHeartbeats 4000000 in
theorem t_X11_behindTest_66 {Γ : gb_X} {sh : List gb_Sh} {out : gb_G × Int32} (hS : gb_S sh) : ∀ (g : gb_G) (z0 : Int32), f_X11_behindTest_66 sh g z0 = some out → gb_J Γ M_X11_behindTest 3 (gb_Ri sh out) 0 0 sh g 66 [(0, .ref 77)] [.int z0, .ref 77] := by
  intro g z0 h
  unfold f_X11_behindTest_66 at h
  refine gb_iconst 0 d_X11_behindTest_66 rfl ?_
  obtain ⟨r7, e8, h⟩ := gb_bd_e h
  refine gb_cVv (As := [.int z0, .int 0]) (rest := []) m_X11_270 (t_X11_emit (Γ := Γ) hS e8) (hS 77 _ rfl) rfl (Nat.le_of_ble_eq_true rfl) rfl rfl (Nat.le_of_ble_eq_true rfl) d_X11_behindTest_67 ?_
  refine gb_aload_n d_X11_behindTest_70 rfl ?_
  obtain ⟨r9, e10, h⟩ := gb_bd_e h
  refine gb_cVv (As := []) (rest := []) m_X11_228 (t_X11_next (Γ := Γ) hS e10) (hS 77 _ rfl) rfl (Nat.le_of_ble_eq_true rfl) rfl rfl (Nat.le_of_ble_eq_true rfl) d_X11_behindTest_71 ?_
  refine gb_iconst 0 d_X11_behindTest_74 rfl ?_
  cases h
  exact gb_iret d_X11_behindTest_75 rfl ⟨rfl, rfl, rfl⟩
set_option maxRecDepth 100000 in
set_option maxHeartbeats 4000000 in
theorem t_X11_behindTest_47 {Γ : gb_X} {sh : List gb_Sh} {out : gb_G × Int32} (hS : gb_S sh) : ∀ (g : gb_G) (y1 : Int32) (z0 : Int32), f_X11_behindTest_47 sh g y1 z0 = some out → gb_J Γ M_X11_behindTest 3 (gb_Ri sh out) 0 0 sh g 47 [(0, .ref 77), (1, .int y1)] [.int z0, .ref 77] := by
  intro g y1 z0 h
  unfold f_X11_behindTest_47 at h
  refine gb_aload_n d_X11_behindTest_47 rfl ?_
  refine gb_geti f_X11_261 (hS 77 _ rfl) rfl d_X11_behindTest_48 ?_
  obtain ⟨r5, e6, h⟩ := gb_bd_e h
  refine gb_cVv (As := [.int z0, .int (g.1 77 23)]) (rest := []) m_X11_287 (t_X11_push (Γ := Γ) hS e6) (hS 77 _ rfl) rfl (Nat.le_of_ble_eq_true rfl) rfl rfl (Nat.le_of_ble_eq_true rfl) d_X11_behindTest_51 ?_
  refine gb_aload_n d_X11_behindTest_54 rfl ?_
  refine gb_iload_n d_X11_behindTest_55 rfl ?_
  refine gb_if_eq 64 d_X11_behindTest_56 (by decide) (fun hc => ?_) (fun hc => ?_)
  · have h := gb_it hc h
    refine gb_bipush 30 d_X11_behindTest_64 rfl ?_
    refine gb_pick (lv' := [(0, .ref 77)]) [0] rfl ?_
    exact t_X11_behindTest_66 hS  _ 30 h
  · have h := gb_if hc h
    refine gb_bipush 29 d_X11_behindTest_59 rfl ?_
    refine gb_goto 66 d_X11_behindTest_61 (by decide) ?_
    refine gb_pick (lv' := [(0, .ref 77)]) [0] rfl ?_
    exact t_X11_behindTest_66 hS  _ 29 h
set_option maxRecDepth 100000 in
set_option maxHeartbeats 4000000 in
theorem t_X11_behindTest_32 {Γ : gb_X} {sh : List gb_Sh} {out : gb_G × Int32} (hS : gb_S sh) : ∀ (g : gb_G) (y1 : Int32) (z0 : Int32), f_X11_behindTest_32 sh g y1 z0 = some out → gb_J Γ M_X11_behindTest 3 (gb_Ri sh out) 0 0 sh g 32 [(0, .ref 77), (1, .int y1)] [.int z0, .ref 77] := by
  intro g y1 z0 h
  unfold f_X11_behindTest_32 at h
  obtain ⟨r3, e4, h⟩ := gb_bd_e h
  refine gb_cVv (As := [.int z0]) (rest := []) m_X11_326 (t_X11_settle (Γ := Γ) hS e4) (hS 77 _ rfl) rfl (Nat.le_of_ble_eq_true rfl) rfl rfl (Nat.le_of_ble_eq_true rfl) d_X11_behindTest_32 ?_
  refine gb_aload_n d_X11_behindTest_35 rfl ?_
  refine gb_iload_n d_X11_behindTest_36 rfl ?_
  refine gb_if_eq 45 d_X11_behindTest_37 (by decide) (fun hc => ?_) (fun hc => ?_)
  · have h := gb_it hc h
    refine gb_bipush 30 d_X11_behindTest_45 rfl ?_
    exact t_X11_behindTest_47 hS  _ y1 30 h
  · have h := gb_if hc h
    refine gb_bipush 29 d_X11_behindTest_40 rfl ?_
    refine gb_goto 47 d_X11_behindTest_42 (by decide) ?_
    exact t_X11_behindTest_47 hS  _ y1 29 h
set_option maxRecDepth 100000 in
set_option maxHeartbeats 4000000 in
theorem t_X11_behindTest_22 {Γ : gb_X} {sh : List gb_Sh} {out : gb_G × Int32} (hS : gb_S sh) : ∀ (g : gb_G) (y1 : Int32), f_X11_behindTest_22 sh g y1 = some out → gb_J Γ M_X11_behindTest 3 (gb_Ri sh out) 0 0 sh g 22 [(0, .ref 77), (1, .int y1)] [] := by
  intro g y1 h
  unfold f_X11_behindTest_22 at h
  refine gb_aload_n d_X11_behindTest_22 rfl ?_
  refine gb_iload_n d_X11_behindTest_23 rfl ?_
  refine gb_if_eq 31 d_X11_behindTest_24 (by decide) (fun hc => ?_) (fun hc => ?_)
  · have h := gb_it hc h
    refine gb_iconst 1 d_X11_behindTest_31 rfl ?_
    exact t_X11_behindTest_32 hS  _ y1 1 h
  · have h := gb_if hc h
    refine gb_iconst 2 d_X11_behindTest_27 rfl ?_
    refine gb_goto 32 d_X11_behindTest_28 (by decide) ?_
    exact t_X11_behindTest_32 hS  _ y1 2 h
set_option maxRecDepth 100000 in
set_option maxHeartbeats 4000000 in
theorem t_X11_behindTest {Γ : gb_X} {sh : List gb_Sh} {out : gb_G × Int32} (hS : gb_S sh) {g : gb_G} (h : f_X11_behindTest sh g = some out) : gb_C Γ M_X11_behindTest 3 0 0 sh g [.ref 77] (gb_Ri sh out) := by
  refine gb_C.of rfl (Nat.le_of_ble_eq_true rfl) ?_
  refine gb_pick (lv' := [(0, .ref 77)]) [0] rfl ?_
  unfold f_X11_behindTest at h
  refine gb_aload_n d_X11_behindTest_0 rfl ?_
  refine gb_ldc2 1476 k_X11_336 d_X11_behindTest_1 ?_
  obtain ⟨r1, e2, h⟩ := gb_bd_e h
  refine gb_cVi (As := [.long 1476]) (rest := []) m_X11_280 (t_X11_isWord (Γ := Γ) hS e2) (hS 77 _ rfl) rfl (Nat.le_of_ble_eq_true rfl) rfl rfl (Nat.le_of_ble_eq_true rfl) d_X11_behindTest_4 ?_
  refine gb_istore_n [(1, .int r1.2), (0, .ref 77)] d_X11_behindTest_7 (Nat.le_of_ble_eq_true rfl) rfl ?_
  refine gb_iload_n d_X11_behindTest_8 rfl ?_
  refine gb_if_ne 22 d_X11_behindTest_9 (by decide) (fun hc => ?_) (fun hc => ?_)
  · have h := gb_if hc h
    refine gb_pick (lv' := [(0, .ref 77), (1, .int r1.2)]) [1, 0] rfl ?_
    exact t_X11_behindTest_22 hS  _ r1.2 h
  · have h := gb_it hc h
    refine gb_aload_n d_X11_behindTest_12 rfl ?_
    refine gb_ldc2 498 k_X11_338 d_X11_behindTest_13 ?_
    obtain ⟨r11, e12, h⟩ := gb_bd_e h
    refine gb_cVi (As := [.long 498]) (rest := []) m_X11_280 (t_X11_isWord (Γ := Γ) hS e12) (hS 77 _ rfl) rfl (Nat.le_of_ble_eq_true rfl) rfl rfl (Nat.le_of_ble_eq_true rfl) d_X11_behindTest_16 ?_
    refine gb_if_eq 76 d_X11_behindTest_19 (by decide) (fun hc => ?_) (fun hc => ?_)
    · have h := gb_it hc h
      refine gb_aload_n d_X11_behindTest_76 rfl ?_
      obtain ⟨r13, e14, h⟩ := gb_bd_e h
      refine gb_cVi (As := []) (rest := []) m_X11_329 (t_X11_inner (Γ := Γ) hS e14) (hS 77 _ rfl) rfl (Nat.le_of_ble_eq_true rfl) rfl rfl (Nat.le_of_ble_eq_true rfl) d_X11_behindTest_77 ?_
      refine gb_iconst (-1) d_X11_behindTest_80 rfl ?_
      refine gb_icmp_ne 86 d_X11_behindTest_81 (by decide) (fun hc => ?_) (fun hc => ?_)
      · have h := gb_if hc h
        refine gb_aload_n d_X11_behindTest_86 rfl ?_
        refine gb_aload_n d_X11_behindTest_87 rfl ?_
        refine gb_bipush 41 d_X11_behindTest_88 rfl ?_
        obtain ⟨r15, e16, h⟩ := gb_bd_e h
        refine gb_cVi (As := [.int 41]) (rest := [.ref 77]) m_X11_293 (t_X11_isSign (Γ := Γ) hS e16) (hS 77 _ rfl) rfl (Nat.le_of_ble_eq_true rfl) rfl rfl (Nat.le_of_ble_eq_true rfl) d_X11_behindTest_90 ?_
        obtain ⟨r17, e18, h⟩ := gb_bd_e h
        refine gb_cVv (As := [.int r15.2]) (rest := []) m_X11_257 (t_X11_must (Γ := Γ) hS e18) (hS 77 _ rfl) rfl (Nat.le_of_ble_eq_true rfl) rfl rfl (Nat.le_of_ble_eq_true rfl) d_X11_behindTest_93 ?_
        refine gb_aload_n d_X11_behindTest_96 rfl ?_
        refine gb_geti f_X11_224 (hS 77 _ rfl) rfl d_X11_behindTest_97 ?_
        refine gb_if_ne 128 d_X11_behindTest_100 (by decide) (fun hc => ?_) (fun hc => ?_)
        · have h := gb_if hc h
          refine gb_iconst 2 d_X11_behindTest_128 rfl ?_
          cases h
          exact gb_iret d_X11_behindTest_129 rfl ⟨rfl, rfl, rfl⟩
        · have h := gb_it hc h
          refine gb_aload_n d_X11_behindTest_103 rfl ?_
          refine gb_iconst 1 d_X11_behindTest_104 rfl ?_
          obtain ⟨r19, e20, h⟩ := gb_bd_e h
          refine gb_cVv (As := [.int 1]) (rest := []) m_X11_326 (t_X11_settle (Γ := Γ) hS e20) (hS 77 _ rfl) rfl (Nat.le_of_ble_eq_true rfl) rfl rfl (Nat.le_of_ble_eq_true rfl) d_X11_behindTest_105 ?_
          refine gb_aload_n d_X11_behindTest_108 rfl ?_
          refine gb_dup d_X11_behindTest_109 rfl ?_
          refine gb_geti f_X11_264 (hS 77 _ rfl) rfl d_X11_behindTest_110 ?_
          refine gb_iconst 1 d_X11_behindTest_113 rfl ?_
          refine gb_isub d_X11_behindTest_114 ?_
          refine gb_puti f_X11_264 (fun h => nomatch h) (hS 77 _ rfl) rfl rfl rfl d_X11_behindTest_115 ?_
          have h := gb_let_e h
          generalize gb_pi r19 77 29 ((r19.1 77 29) - 1) = g21 at h ⊢
          refine gb_aload_n d_X11_behindTest_118 rfl ?_
          refine gb_dup d_X11_behindTest_119 rfl ?_
          refine gb_geti f_X11_284 (hS 77 _ rfl) rfl d_X11_behindTest_120 ?_
          refine gb_iconst 1 d_X11_behindTest_123 rfl ?_
          refine gb_isub d_X11_behindTest_124 ?_
          refine gb_puti f_X11_284 (fun h => nomatch h) (hS 77 _ rfl) rfl rfl rfl d_X11_behindTest_125 ?_
          have h := gb_let_e h
          generalize gb_pi g21 77 30 ((g21.1 77 30) - 1) = g22 at h ⊢
          refine gb_iconst 2 d_X11_behindTest_128 rfl ?_
          cases h
          exact gb_iret d_X11_behindTest_129 rfl ⟨rfl, rfl, rfl⟩
      · have h := gb_it hc h
        refine gb_iconst 4 d_X11_behindTest_84 rfl ?_
        cases h
        exact gb_iret d_X11_behindTest_85 rfl ⟨rfl, rfl, rfl⟩
    · have h := gb_if hc h
      refine gb_pick (lv' := [(0, .ref 77), (1, .int r1.2)]) [1, 0] rfl ?_
      exact t_X11_behindTest_22 hS  _ r1.2 h
-- X11_readExpression
noncomputable def f_X11_readExpression_76 (sh : List gb_Sh) (g : gb_G)  : Option (gb_G) := gb_bd (f_X11_settle sh g 1) (fun r3 => some r3)
noncomputable def f_X11_readExpression_72 (sh : List gb_Sh) (K20 : gb_G → Int32 → Int32 → Option (gb_G)) (g : gb_G) (y1 : Int32) (z0 : Int32) : Option (gb_G) := K20 g y1 z0
noncomputable def f_X11_readExpression_20 (sh : List gb_Sh) : Nat → gb_G → Int32 → Int32 → Option (gb_G)
  | 0, _, _, _ => none
  | n + 1, g, y1, y2 => if (g.1 77 19) = 0 then (if y2 = 4 then (f_X11_readExpression_76 sh g ) else (if y2 = 0 then (gb_bd (f_X11_readPlain sh g) (fun r11 => f_X11_readExpression_72 sh (fun w w0 w1 => f_X11_readExpression_20 sh n w w0 w1) r11.1 y1 r11.2)) else (if y2 = 1 then (gb_bd (f_X11_readPart sh g) (fun r9 => f_X11_readExpression_72 sh (fun w w0 w1 => f_X11_readExpression_20 sh n w w0 w1) r9.1 y1 r9.2)) else (if y2 = 3 then (gb_bd (f_X11_behindSum sh g y1) (fun r7 => f_X11_readExpression_72 sh (fun w w0 w1 => f_X11_readExpression_20 sh n w w0 w1) r7.1 y1 r7.2)) else (gb_bd (f_X11_behindTest sh g) (fun r5 => f_X11_readExpression_72 sh (fun w w0 w1 => f_X11_readExpression_20 sh n w w0 w1) r5.1 y1 r5.2)))))) else (f_X11_readExpression_76 sh g )
noncomputable def f_X11_readExpression_19 (sh : List gb_Sh) (g : gb_G) (y1 : Int32) (z0 : Int32) : Option (gb_G) := f_X11_readExpression_20 sh gb_N g y1 z0
noncomputable def f_X11_readExpression (sh : List gb_Sh) (g : gb_G) (x1 : Int32) : Option (gb_G) := gb_let (gb_pi g 77 29 0) (fun g1 => gb_let (gb_pi g1 77 30 0) (fun g2 => if x1 = 0 then (f_X11_readExpression_19 sh g2 x1 1) else (f_X11_readExpression_19 sh g2 x1 0)))
set_option maxRecDepth 100000 in
set_option maxHeartbeats 4000000 in
theorem t_X11_readExpression_76 {Γ : gb_X} {sh : List gb_Sh} {out : gb_G} (hS : gb_S sh) : ∀ (g : gb_G) , f_X11_readExpression_76 sh g  = some out → gb_J Γ M_X11_readExpression 6 (gb_Rv sh out) 0 0 sh g 76 [(0, .ref 77)] [] := by
  intro g  h
  unfold f_X11_readExpression_76 at h
  refine gb_aload_n d_X11_readExpression_76 rfl ?_
  refine gb_iconst 1 d_X11_readExpression_77 rfl ?_
  obtain ⟨r3, e4, h⟩ := gb_bd_e h
  refine gb_cVv (As := [.int 1]) (rest := []) m_X11_326 (t_X11_settle (Γ := Γ) hS e4) (hS 77 _ rfl) rfl (Nat.le_of_ble_eq_true rfl) rfl rfl (Nat.le_of_ble_eq_true rfl) d_X11_readExpression_78 ?_
  cases h
  exact gb_vret d_X11_readExpression_81 rfl ⟨rfl, rfl, rfl⟩
set_option maxRecDepth 100000 in
set_option maxHeartbeats 4000000 in
theorem t_X11_readExpression_72 {Γ : gb_X} {sh : List gb_Sh} {out : gb_G} (hS : gb_S sh) {K20 : gb_G → Int32 → Int32 → Option (gb_G)} (hK20 : ∀ (g : gb_G) (y1 : Int32) (y2 : Int32), K20 g y1 y2 = some out → gb_J Γ M_X11_readExpression 6 (gb_Rv sh out) 0 0 sh g 20 [(0, .ref 77), (1, .int y1), (2, .int y2)] []) : ∀ (g : gb_G) (y1 : Int32) (z0 : Int32), f_X11_readExpression_72 sh K20 g y1 z0 = some out → gb_J Γ M_X11_readExpression 6 (gb_Rv sh out) 0 0 sh g 72 [(0, .ref 77), (1, .int y1)] [.int z0] := by
  intro g y1 z0 h
  unfold f_X11_readExpression_72 at h
  refine gb_istore_n [(2, .int z0), (0, .ref 77), (1, .int y1)] d_X11_readExpression_72 (Nat.le_of_ble_eq_true rfl) rfl ?_
  refine gb_goto 20 d_X11_readExpression_73 (by decide) ?_
  refine gb_pick (lv' := [(0, .ref 77), (1, .int y1), (2, .int z0)]) [1, 2, 0] rfl ?_
  exact hK20 _ y1 z0 h
set_option maxRecDepth 100000 in
set_option maxHeartbeats 4000000 in
theorem t_X11_readExpression_20 {Γ : gb_X} {sh : List gb_Sh} {out : gb_G} (hS : gb_S sh) : ∀ (n : Nat) (g : gb_G) (y1 : Int32) (y2 : Int32), f_X11_readExpression_20 sh n g y1 y2 = some out → gb_J Γ M_X11_readExpression 6 (gb_Rv sh out) 0 0 sh g 20 [(0, .ref 77), (1, .int y1), (2, .int y2)] [] := by
  intro n
  induction n with
  | zero => intro g y1 y2 h; cases h
  | succ n ih =>
    intro g y1 y2 h
    rw [f_X11_readExpression_20] at h
    refine gb_aload_n d_X11_readExpression_20 rfl ?_
    refine gb_geti f_X11_224 (hS 77 _ rfl) rfl d_X11_readExpression_21 ?_
    refine gb_if_ne 76 d_X11_readExpression_24 (by decide) (fun hc => ?_) (fun hc => ?_)
    · have h := gb_if hc h
      refine gb_pick (lv' := [(0, .ref 77)]) [0] rfl ?_
      exact t_X11_readExpression_76 hS  _  h
    · have h := gb_it hc h
      refine gb_iload_n d_X11_readExpression_27 rfl ?_
      refine gb_iconst 4 d_X11_readExpression_28 rfl ?_
      refine gb_icmp_eq 76 d_X11_readExpression_29 (by decide) (fun hc => ?_) (fun hc => ?_)
      · have h := gb_it hc h
        refine gb_pick (lv' := [(0, .ref 77)]) [0] rfl ?_
        exact t_X11_readExpression_76 hS  _  h
      · have h := gb_if hc h
        refine gb_iload_n d_X11_readExpression_32 rfl ?_
        refine gb_if_ne 43 d_X11_readExpression_33 (by decide) (fun hc => ?_) (fun hc => ?_)
        · have h := gb_if hc h
          refine gb_iload_n d_X11_readExpression_43 rfl ?_
          refine gb_iconst 1 d_X11_readExpression_44 rfl ?_
          refine gb_icmp_ne 55 d_X11_readExpression_45 (by decide) (fun hc => ?_) (fun hc => ?_)
          · have h := gb_if hc h
            refine gb_iload_n d_X11_readExpression_55 rfl ?_
            refine gb_iconst 3 d_X11_readExpression_56 rfl ?_
            refine gb_icmp_ne 68 d_X11_readExpression_57 (by decide) (fun hc => ?_) (fun hc => ?_)
            · have h := gb_if hc h
              refine gb_aload_n d_X11_readExpression_68 rfl ?_
              obtain ⟨r5, e6, h⟩ := gb_bd_e h
              refine gb_cVi (As := []) (rest := []) m_X11_347 (t_X11_behindTest (Γ := Γ) hS e6) (hS 77 _ rfl) rfl (Nat.le_of_ble_eq_true rfl) rfl rfl (Nat.le_of_ble_eq_true rfl) d_X11_readExpression_69 ?_
              refine gb_pick (lv' := [(0, .ref 77), (1, .int y1)]) [0, 1] rfl ?_
              exact t_X11_readExpression_72 hS (fun w w0 w1 hw => ih w w0 w1 hw) _ y1 r5.2 h
            · have h := gb_it hc h
              refine gb_aload_n d_X11_readExpression_60 rfl ?_
              refine gb_iload_n d_X11_readExpression_61 rfl ?_
              obtain ⟨r7, e8, h⟩ := gb_bd_e h
              refine gb_cVi (As := [.int y1]) (rest := []) m_X11_343 (t_X11_behindSum (Γ := Γ) hS e8) (hS 77 _ rfl) rfl (Nat.le_of_ble_eq_true rfl) rfl rfl (Nat.le_of_ble_eq_true rfl) d_X11_readExpression_62 ?_
              refine gb_goto 72 d_X11_readExpression_65 (by decide) ?_
              refine gb_pick (lv' := [(0, .ref 77), (1, .int y1)]) [0, 1] rfl ?_
              exact t_X11_readExpression_72 hS (fun w w0 w1 hw => ih w w0 w1 hw) _ y1 r7.2 h
          · have h := gb_it hc h
            refine gb_aload_n d_X11_readExpression_48 rfl ?_
            obtain ⟨r9, e10, h⟩ := gb_bd_e h
            refine gb_cVi (As := []) (rest := []) m_X11_323 (t_X11_readPart (Γ := Γ) hS e10) (hS 77 _ rfl) rfl (Nat.le_of_ble_eq_true rfl) rfl rfl (Nat.le_of_ble_eq_true rfl) d_X11_readExpression_49 ?_
            refine gb_goto 72 d_X11_readExpression_52 (by decide) ?_
            refine gb_pick (lv' := [(0, .ref 77), (1, .int y1)]) [0, 1] rfl ?_
            exact t_X11_readExpression_72 hS (fun w w0 w1 hw => ih w w0 w1 hw) _ y1 r9.2 h
        · have h := gb_it hc h
          refine gb_aload_n d_X11_readExpression_36 rfl ?_
          obtain ⟨r11, e12, h⟩ := gb_bd_e h
          refine gb_cVi (As := []) (rest := []) m_X11_340 (t_X11_readPlain (Γ := Γ) hS e12) (hS 77 _ rfl) rfl (Nat.le_of_ble_eq_true rfl) rfl rfl (Nat.le_of_ble_eq_true rfl) d_X11_readExpression_37 ?_
          refine gb_goto 72 d_X11_readExpression_40 (by decide) ?_
          refine gb_pick (lv' := [(0, .ref 77), (1, .int y1)]) [0, 1] rfl ?_
          exact t_X11_readExpression_72 hS (fun w w0 w1 hw => ih w w0 w1 hw) _ y1 r11.2 h
set_option maxRecDepth 100000 in
set_option maxHeartbeats 4000000 in
theorem t_X11_readExpression_19 {Γ : gb_X} {sh : List gb_Sh} {out : gb_G} (hS : gb_S sh) : ∀ (g : gb_G) (y1 : Int32) (z0 : Int32), f_X11_readExpression_19 sh g y1 z0 = some out → gb_J Γ M_X11_readExpression 6 (gb_Rv sh out) 0 0 sh g 19 [(0, .ref 77), (1, .int y1)] [.int z0] := by
  intro g y1 z0 h
  unfold f_X11_readExpression_19 at h
  refine gb_istore_n [(2, .int z0), (0, .ref 77), (1, .int y1)] d_X11_readExpression_19 (Nat.le_of_ble_eq_true rfl) rfl ?_
  refine gb_pick (lv' := [(0, .ref 77), (1, .int y1), (2, .int z0)]) [1, 2, 0] rfl ?_
  exact t_X11_readExpression_20 hS  gb_N _ y1 z0 h
set_option maxRecDepth 100000 in
set_option maxHeartbeats 4000000 in
theorem t_X11_readExpression {Γ : gb_X} {sh : List gb_Sh} {x1 : Int32} {out : gb_G} (hS : gb_S sh) {g : gb_G} (h : f_X11_readExpression sh g x1 = some out) : gb_C Γ M_X11_readExpression 6 0 0 sh g [.ref 77, .int x1] (gb_Rv sh out) := by
  refine gb_C.of rfl (Nat.le_of_ble_eq_true rfl) ?_
  refine gb_pick (lv' := [(0, .ref 77), (1, .int x1)]) [0, 1] rfl ?_
  unfold f_X11_readExpression at h
  refine gb_aload_n d_X11_readExpression_0 rfl ?_
  refine gb_iconst 0 d_X11_readExpression_1 rfl ?_
  refine gb_puti f_X11_264 (fun h => nomatch h) (hS 77 _ rfl) rfl rfl rfl d_X11_readExpression_2 ?_
  have h := gb_let_e h
  generalize gb_pi g 77 29 0 = g1 at h ⊢
  refine gb_aload_n d_X11_readExpression_5 rfl ?_
  refine gb_iconst 0 d_X11_readExpression_6 rfl ?_
  refine gb_puti f_X11_284 (fun h => nomatch h) (hS 77 _ rfl) rfl rfl rfl d_X11_readExpression_7 ?_
  have h := gb_let_e h
  generalize gb_pi g1 77 30 0 = g2 at h ⊢
  refine gb_iload_n d_X11_readExpression_10 rfl ?_
  refine gb_if_eq 18 d_X11_readExpression_11 (by decide) (fun hc => ?_) (fun hc => ?_)
  · have h := gb_it hc h
    refine gb_iconst 1 d_X11_readExpression_18 rfl ?_
    exact t_X11_readExpression_19 hS  _ x1 1 h
  · have h := gb_if hc h
    refine gb_iconst 0 d_X11_readExpression_14 rfl ?_
    refine gb_goto 19 d_X11_readExpression_15 (by decide) ?_
    exact t_X11_readExpression_19 hS  _ x1 0 h
-- X11_beginText
noncomputable def f_X11_beginText (sh : List gb_Sh) (g : gb_G) (x1 : Int32) : Option (gb_G) := gb_bo x1 (gb_let (gb_pi g 77 20 x1) (fun g1 => gb_bd (f_X11_begin sh g1) (fun r3 => gb_let (gb_pi r3 77 21 0) (fun g5 => gb_let (gb_pi g5 77 23 0) (fun g6 => gb_let (gb_pi g6 77 26 0) (fun g7 => some g7))))))
set_option maxRecDepth 100000 in
set_option maxHeartbeats 4000000 in
theorem t_X11_beginText {Γ : gb_X} {sh : List gb_Sh} {x1 : Int32} {out : gb_G} (hS : gb_S sh) {g : gb_G} (h : f_X11_beginText sh g x1 = some out) : gb_C Γ M_X11_beginText 3 0 0 sh g [.ref 77, .int x1] (gb_Rv sh out) := by
  refine gb_C.of rfl (Nat.le_of_ble_eq_true rfl) ?_
  refine gb_pick (lv' := [(0, .ref 77), (1, .int x1)]) [0, 1] rfl ?_
  unfold f_X11_beginText at h
  refine gb_aload_n d_X11_beginText_0 rfl ?_
  refine gb_iload_n d_X11_beginText_1 rfl ?_
  obtain ⟨hb2, hb2f, h⟩ := gb_bo_e2 h
  refine gb_puti f_X11_299 (fun h => nomatch h) (hS 77 _ rfl) rfl hb2 hb2f d_X11_beginText_2 ?_
  have h := gb_let_e h
  generalize gb_pi g 77 20 x1 = g1 at h ⊢
  refine gb_aload_n d_X11_beginText_5 rfl ?_
  obtain ⟨r3, e4, h⟩ := gb_bd_e h
  refine gb_cVv (As := []) (rest := []) m_X11_350 (t_X11_begin (Γ := Γ) hS e4) (hS 77 _ rfl) rfl (Nat.le_of_ble_eq_true rfl) rfl rfl (Nat.le_of_ble_eq_true rfl) d_X11_beginText_6 ?_
  refine gb_aload_n d_X11_beginText_9 rfl ?_
  refine gb_iconst 0 d_X11_beginText_10 rfl ?_
  refine gb_puti f_X11_353 (fun h => nomatch h) (hS 77 _ rfl) rfl rfl rfl d_X11_beginText_11 ?_
  have h := gb_let_e h
  generalize gb_pi r3 77 21 0 = g5 at h ⊢
  refine gb_aload_n d_X11_beginText_14 rfl ?_
  refine gb_iconst 0 d_X11_beginText_15 rfl ?_
  refine gb_puti f_X11_261 (fun h => nomatch h) (hS 77 _ rfl) rfl rfl rfl d_X11_beginText_16 ?_
  have h := gb_let_e h
  generalize gb_pi g5 77 23 0 = g6 at h ⊢
  refine gb_aload_n d_X11_beginText_19 rfl ?_
  refine gb_iconst 0 d_X11_beginText_20 rfl ?_
  refine gb_puti f_X11_290 (fun h => nomatch h) (hS 77 _ rfl) rfl rfl rfl d_X11_beginText_21 ?_
  have h := gb_let_e h
  generalize gb_pi g6 77 26 0 = g7 at h ⊢
  cases h
  exact gb_vret d_X11_beginText_24 rfl ⟨rfl, rfl, rfl⟩
-- X11_endText
noncomputable def f_X11_endText_19 (sh : List gb_Sh) (g : gb_G)  : Option (gb_G) := gb_let (gb_pi g 77 20 0) (fun g1 => gb_let (gb_pi g1 77 13 0) (fun g2 => some g2))
noncomputable def f_X11_endText (sh : List gb_Sh) (g : gb_G) : Option (gb_G) := if (g.1 77 19) = 0 then (if (g.1 77 16) = 0 then (f_X11_endText_19 sh g ) else (gb_bd (f_X11_must sh g 0) (fun r3 => f_X11_endText_19 sh r3 ))) else (f_X11_endText_19 sh g )
set_option maxRecDepth 100000 in
set_option maxHeartbeats 4000000 in
theorem t_X11_endText_19 {Γ : gb_X} {sh : List gb_Sh} {out : gb_G} (hS : gb_S sh) : ∀ (g : gb_G) , f_X11_endText_19 sh g  = some out → gb_J Γ M_X11_endText 3 (gb_Rv sh out) 0 0 sh g 19 [(0, .ref 77)] [] := by
  intro g  h
  unfold f_X11_endText_19 at h
  refine gb_aload_n d_X11_endText_19 rfl ?_
  refine gb_iconst 0 d_X11_endText_20 rfl ?_
  refine gb_puti f_X11_299 (fun h => nomatch h) (hS 77 _ rfl) rfl rfl rfl d_X11_endText_21 ?_
  have h := gb_let_e h
  generalize gb_pi g 77 20 0 = g1 at h ⊢
  refine gb_aload_n d_X11_endText_24 rfl ?_
  refine gb_iconst 0 d_X11_endText_25 rfl ?_
  refine gb_puti f_X11_212 (fun h => nomatch h) (hS 77 _ rfl) rfl rfl rfl d_X11_endText_26 ?_
  have h := gb_let_e h
  generalize gb_pi g1 77 13 0 = g2 at h ⊢
  cases h
  exact gb_vret d_X11_endText_29 rfl ⟨rfl, rfl, rfl⟩
set_option maxRecDepth 100000 in
set_option maxHeartbeats 4000000 in
theorem t_X11_endText {Γ : gb_X} {sh : List gb_Sh} {out : gb_G} (hS : gb_S sh) {g : gb_G} (h : f_X11_endText sh g = some out) : gb_C Γ M_X11_endText 3 0 0 sh g [.ref 77] (gb_Rv sh out) := by
  refine gb_C.of rfl (Nat.le_of_ble_eq_true rfl) ?_
  refine gb_pick (lv' := [(0, .ref 77)]) [0] rfl ?_
  unfold f_X11_endText at h
  refine gb_aload_n d_X11_endText_0 rfl ?_
  refine gb_geti f_X11_224 (hS 77 _ rfl) rfl d_X11_endText_1 ?_
  refine gb_if_ne 19 d_X11_endText_4 (by decide) (fun hc => ?_) (fun hc => ?_)
  · have h := gb_if hc h
    exact t_X11_endText_19 hS  _  h
  · have h := gb_it hc h
    refine gb_aload_n d_X11_endText_7 rfl ?_
    refine gb_geti f_X11_244 (hS 77 _ rfl) rfl d_X11_endText_8 ?_
    refine gb_if_eq 19 d_X11_endText_11 (by decide) (fun hc => ?_) (fun hc => ?_)
    · have h := gb_it hc h
      exact t_X11_endText_19 hS  _  h
    · have h := gb_if hc h
      refine gb_aload_n d_X11_endText_14 rfl ?_
      refine gb_iconst 0 d_X11_endText_15 rfl ?_
      obtain ⟨r3, e4, h⟩ := gb_bd_e h
      refine gb_cVv (As := [.int 0]) (rest := []) m_X11_257 (t_X11_must (Γ := Γ) hS e4) (hS 77 _ rfl) rfl (Nat.le_of_ble_eq_true rfl) rfl rfl (Nat.le_of_ble_eq_true rfl) d_X11_endText_16 ?_
      exact t_X11_endText_19 hS  _  h
-- X11_readLaw
noncomputable def f_X11_readLaw_185 (sh : List gb_Sh) (g : gb_G) (y2 : Int32) : Option (gb_G) := gb_ck (y2 + 6) 96 (gb_let (gb_pi g 87 ((y2 + 6).toNatClampNeg) (g.1 77 23)) (fun g13 => some g13))
noncomputable def f_X11_readLaw_135 (sh : List gb_Sh) (g : gb_G) (y2 : Int32) : Option (gb_G) := gb_ck (y2 + 4) 96 (gb_let (gb_pi g 87 ((y2 + 4).toNatClampNeg) (g.1 77 23)) (fun g9 => gb_ck (y2 + 5) 96 (gb_let (gb_pi g9 87 ((y2 + 5).toNatClampNeg) (g9.1 77 23)) (fun g11 => if (g11.1 77 19) = 0 then (gb_bd (f_X11_isWord sh g11 294) (fun r14 => if r14.2 = 0 then (f_X11_readLaw_185 sh r14.1 y2) else (gb_bd (f_X11_next sh r14.1) (fun r16 => gb_bd (f_X11_readExpression sh r16 1) (fun r18 => f_X11_readLaw_185 sh r18 y2))))) else (f_X11_readLaw_185 sh g11 y2)))))
noncomputable def f_X11_readLaw_75 (sh : List gb_Sh) : Nat → gb_G → Int32 → Int32 → Int32 → Option (gb_G)
  | 0, _, _, _, _ => none
  | n + 1, g, y1, y2, y3 => if 8 ≤ y3 then (gb_ck y2 96 (gb_let (gb_pi g 87 y2.toNatClampNeg y1) (fun g4 => gb_let (gb_pi g4 77 21 ((g4.1 77 21) + 1)) (fun g5 => gb_ck (y2 + 3) 96 (gb_let (gb_pi g5 87 ((y2 + 3).toNatClampNeg) (g5.1 77 23)) (fun g7 => if y1 = 3 then (f_X11_readLaw_135 sh g7 y2) else (gb_bd (f_X11_readExpression sh g7 0) (fun r20 => f_X11_readLaw_135 sh r20 y2)))))))) else (gb_ck (y2 + y3) 96 (gb_let (gb_pi g 87 ((y2 + y3).toNatClampNeg) 0) (fun g23 => f_X11_readLaw_75 sh n g23 y1 y2 (y3 + 1))))
noncomputable def f_X11_readLaw_54 (sh : List gb_Sh) (g : gb_G) (y1 : Int32) (z0 : Int32) : Option (gb_G) := gb_bd (f_X11_must sh g z0) (fun r1 => if (r1.1 77 19) = 0 then (f_X11_readLaw_75 sh gb_N r1 y1 (8 * (r1.1 77 21)) 0) else (some r1))
noncomputable def f_X11_readLaw_27 (sh : List gb_Sh) (K4 : gb_G → Int32 → Int32 → Option (gb_G)) (g : gb_G) (y2 : Int32) (z0 : Int32) : Option (gb_G) := K4 g z0 (y2 + 1)
noncomputable def f_X11_readLaw_4 (sh : List gb_Sh) : Nat → gb_G → Int32 → Int32 → Option (gb_G)
  | 0, _, _, _ => none
  | n + 1, g, y1, y2 => if 4 ≤ y2 then (if y1 = (-1) then (f_X11_readLaw_54 sh g y1 0) else (if 12 ≤ (g.1 77 21) then (f_X11_readLaw_54 sh g y1 0) else (f_X11_readLaw_54 sh g y1 1))) else (gb_ck y2 4 (gb_bd (f_X11_isWord sh g (g.2.1 94 y2.toNatClampNeg)) (fun r25 => if r25.2 = 0 then (f_X11_readLaw_27 sh (fun w w0 w1 => f_X11_readLaw_4 sh n w w0 w1) r25.1 y2 y1) else (f_X11_readLaw_27 sh (fun w w0 w1 => f_X11_readLaw_4 sh n w w0 w1) r25.1 y2 y2))))
noncomputable def f_X11_readLaw (sh : List gb_Sh) (g : gb_G) : Option (gb_G) := f_X11_readLaw_4 sh gb_N g (-1) 0
set_option maxRecDepth 100000 in
set_option maxHeartbeats 4000000 in
theorem t_X11_readLaw_185 {Γ : gb_X} {sh : List gb_Sh} {out : gb_G} (hS : gb_S sh) : ∀ (g : gb_G) (y2 : Int32), f_X11_readLaw_185 sh g y2 = some out → gb_J Γ M_X11_readLaw 7 (gb_Rv sh out) 0 0 sh g 185 [(0, .ref 77), (2, .int y2)] [] := by
  intro g y2 h
  unfold f_X11_readLaw_185 at h
  refine gb_aload_n d_X11_readLaw_185 rfl ?_
  refine gb_getr (r := 87) f_X11_42 (hS 77 _ rfl) rfl d_X11_readLaw_186 ?_
  refine gb_iload_n d_X11_readLaw_189 rfl ?_
  refine gb_bipush 6 d_X11_readLaw_190 rfl ?_
  refine gb_iadd d_X11_readLaw_192 ?_
  refine gb_aload_n d_X11_readLaw_193 rfl ?_
  refine gb_geti f_X11_261 (hS 77 _ rfl) rfl d_X11_readLaw_194 ?_
  obtain ⟨hi12, h⟩ := gb_ck_e h
  refine gb_iast_ ((y2 + 6).toNatClampNeg) rfl (hS 87 _ rfl) hi12 d_X11_readLaw_197 ?_
  have h := gb_let_e h
  generalize gb_pi g 87 ((y2 + 6).toNatClampNeg) (g.1 77 23) = g13 at h ⊢
  cases h
  exact gb_vret d_X11_readLaw_198 rfl ⟨rfl, rfl, rfl⟩
set_option maxRecDepth 100000 in
set_option maxHeartbeats 4000000 in
theorem t_X11_readLaw_135 {Γ : gb_X} {sh : List gb_Sh} {out : gb_G} (hS : gb_S sh) : ∀ (g : gb_G) (y2 : Int32), f_X11_readLaw_135 sh g y2 = some out → gb_J Γ M_X11_readLaw 7 (gb_Rv sh out) 0 0 sh g 135 [(0, .ref 77), (2, .int y2)] [] := by
  intro g y2 h
  unfold f_X11_readLaw_135 at h
  refine gb_aload_n d_X11_readLaw_135 rfl ?_
  refine gb_getr (r := 87) f_X11_42 (hS 77 _ rfl) rfl d_X11_readLaw_136 ?_
  refine gb_iload_n d_X11_readLaw_139 rfl ?_
  refine gb_iconst 4 d_X11_readLaw_140 rfl ?_
  refine gb_iadd d_X11_readLaw_141 ?_
  refine gb_aload_n d_X11_readLaw_142 rfl ?_
  refine gb_geti f_X11_261 (hS 77 _ rfl) rfl d_X11_readLaw_143 ?_
  obtain ⟨hi8, h⟩ := gb_ck_e h
  refine gb_iast_ ((y2 + 4).toNatClampNeg) rfl (hS 87 _ rfl) hi8 d_X11_readLaw_146 ?_
  have h := gb_let_e h
  generalize gb_pi g 87 ((y2 + 4).toNatClampNeg) (g.1 77 23) = g9 at h ⊢
  refine gb_aload_n d_X11_readLaw_147 rfl ?_
  refine gb_getr (r := 87) f_X11_42 (hS 77 _ rfl) rfl d_X11_readLaw_148 ?_
  refine gb_iload_n d_X11_readLaw_151 rfl ?_
  refine gb_iconst 5 d_X11_readLaw_152 rfl ?_
  refine gb_iadd d_X11_readLaw_153 ?_
  refine gb_aload_n d_X11_readLaw_154 rfl ?_
  refine gb_geti f_X11_261 (hS 77 _ rfl) rfl d_X11_readLaw_155 ?_
  obtain ⟨hi10, h⟩ := gb_ck_e h
  refine gb_iast_ ((y2 + 5).toNatClampNeg) rfl (hS 87 _ rfl) hi10 d_X11_readLaw_158 ?_
  have h := gb_let_e h
  generalize gb_pi g9 87 ((y2 + 5).toNatClampNeg) (g9.1 77 23) = g11 at h ⊢
  refine gb_aload_n d_X11_readLaw_159 rfl ?_
  refine gb_geti f_X11_224 (hS 77 _ rfl) rfl d_X11_readLaw_160 ?_
  refine gb_if_ne 185 d_X11_readLaw_163 (by decide) (fun hc => ?_) (fun hc => ?_)
  · have h := gb_if hc h
    exact t_X11_readLaw_185 hS  _ y2 h
  · have h := gb_it hc h
    refine gb_aload_n d_X11_readLaw_166 rfl ?_
    refine gb_ldc2 294 k_X11_359 d_X11_readLaw_167 ?_
    obtain ⟨r14, e15, h⟩ := gb_bd_e h
    refine gb_cVi (As := [.long 294]) (rest := []) m_X11_280 (t_X11_isWord (Γ := Γ) hS e15) (hS 77 _ rfl) rfl (Nat.le_of_ble_eq_true rfl) rfl rfl (Nat.le_of_ble_eq_true rfl) d_X11_readLaw_170 ?_
    refine gb_if_eq 185 d_X11_readLaw_173 (by decide) (fun hc => ?_) (fun hc => ?_)
    · have h := gb_it hc h
      exact t_X11_readLaw_185 hS  _ y2 h
    · have h := gb_if hc h
      refine gb_aload_n d_X11_readLaw_176 rfl ?_
      obtain ⟨r16, e17, h⟩ := gb_bd_e h
      refine gb_cVv (As := []) (rest := []) m_X11_228 (t_X11_next (Γ := Γ) hS e17) (hS 77 _ rfl) rfl (Nat.le_of_ble_eq_true rfl) rfl rfl (Nat.le_of_ble_eq_true rfl) d_X11_readLaw_177 ?_
      refine gb_aload_n d_X11_readLaw_180 rfl ?_
      refine gb_iconst 1 d_X11_readLaw_181 rfl ?_
      obtain ⟨r18, e19, h⟩ := gb_bd_e h
      refine gb_cVv (As := [.int 1]) (rest := []) m_X11_356 (t_X11_readExpression (Γ := Γ) hS e19) (hS 77 _ rfl) rfl (Nat.le_of_ble_eq_true rfl) rfl rfl (Nat.le_of_ble_eq_true rfl) d_X11_readLaw_182 ?_
      exact t_X11_readLaw_185 hS  _ y2 h
set_option maxRecDepth 100000 in
set_option maxHeartbeats 4000000 in
theorem t_X11_readLaw_75 {Γ : gb_X} {sh : List gb_Sh} {out : gb_G} (hS : gb_S sh) : ∀ (n : Nat) (g : gb_G) (y1 : Int32) (y2 : Int32) (y3 : Int32), f_X11_readLaw_75 sh n g y1 y2 y3 = some out → gb_J Γ M_X11_readLaw 7 (gb_Rv sh out) 0 0 sh g 75 [(0, .ref 77), (1, .int y1), (2, .int y2), (3, .int y3)] [] := by
  intro n
  induction n with
  | zero => intro g y1 y2 y3 h; cases h
  | succ n ih =>
    intro g y1 y2 y3 h
    rw [f_X11_readLaw_75] at h
    refine gb_iload_n d_X11_readLaw_75 rfl ?_
    refine gb_bipush 8 d_X11_readLaw_76 rfl ?_
    refine gb_icmp_ge 96 d_X11_readLaw_78 (by decide) (fun hc => ?_) (fun hc => ?_)
    · have h := gb_it hc h
      refine gb_aload_n d_X11_readLaw_96 rfl ?_
      refine gb_getr (r := 87) f_X11_42 (hS 77 _ rfl) rfl d_X11_readLaw_97 ?_
      refine gb_iload_n d_X11_readLaw_100 rfl ?_
      refine gb_iload_n d_X11_readLaw_101 rfl ?_
      obtain ⟨hi3, h⟩ := gb_ck_e h
      refine gb_iast_ y2.toNatClampNeg rfl (hS 87 _ rfl) hi3 d_X11_readLaw_102 ?_
      have h := gb_let_e h
      generalize gb_pi g 87 y2.toNatClampNeg y1 = g4 at h ⊢
      refine gb_aload_n d_X11_readLaw_103 rfl ?_
      refine gb_dup d_X11_readLaw_104 rfl ?_
      refine gb_geti f_X11_353 (hS 77 _ rfl) rfl d_X11_readLaw_105 ?_
      refine gb_iconst 1 d_X11_readLaw_108 rfl ?_
      refine gb_iadd d_X11_readLaw_109 ?_
      refine gb_puti f_X11_353 (fun h => nomatch h) (hS 77 _ rfl) rfl rfl rfl d_X11_readLaw_110 ?_
      have h := gb_let_e h
      generalize gb_pi g4 77 21 ((g4.1 77 21) + 1) = g5 at h ⊢
      refine gb_aload_n d_X11_readLaw_113 rfl ?_
      refine gb_getr (r := 87) f_X11_42 (hS 77 _ rfl) rfl d_X11_readLaw_114 ?_
      refine gb_iload_n d_X11_readLaw_117 rfl ?_
      refine gb_iconst 3 d_X11_readLaw_118 rfl ?_
      refine gb_iadd d_X11_readLaw_119 ?_
      refine gb_aload_n d_X11_readLaw_120 rfl ?_
      refine gb_geti f_X11_261 (hS 77 _ rfl) rfl d_X11_readLaw_121 ?_
      obtain ⟨hi6, h⟩ := gb_ck_e h
      refine gb_iast_ ((y2 + 3).toNatClampNeg) rfl (hS 87 _ rfl) hi6 d_X11_readLaw_124 ?_
      have h := gb_let_e h
      generalize gb_pi g5 87 ((y2 + 3).toNatClampNeg) (g5.1 77 23) = g7 at h ⊢
      refine gb_iload_n d_X11_readLaw_125 rfl ?_
      refine gb_iconst 3 d_X11_readLaw_126 rfl ?_
      refine gb_icmp_eq 135 d_X11_readLaw_127 (by decide) (fun hc => ?_) (fun hc => ?_)
      · have h := gb_it hc h
        refine gb_pick (lv' := [(0, .ref 77), (2, .int y2)]) [0, 2] rfl ?_
        exact t_X11_readLaw_135 hS  _ y2 h
      · have h := gb_if hc h
        refine gb_aload_n d_X11_readLaw_130 rfl ?_
        refine gb_iconst 0 d_X11_readLaw_131 rfl ?_
        obtain ⟨r20, e21, h⟩ := gb_bd_e h
        refine gb_cVv (As := [.int 0]) (rest := []) m_X11_356 (t_X11_readExpression (Γ := Γ) hS e21) (hS 77 _ rfl) rfl (Nat.le_of_ble_eq_true rfl) rfl rfl (Nat.le_of_ble_eq_true rfl) d_X11_readLaw_132 ?_
        refine gb_pick (lv' := [(0, .ref 77), (2, .int y2)]) [0, 2] rfl ?_
        exact t_X11_readLaw_135 hS  _ y2 h
    · have h := gb_if hc h
      refine gb_aload_n d_X11_readLaw_81 rfl ?_
      refine gb_getr (r := 87) f_X11_42 (hS 77 _ rfl) rfl d_X11_readLaw_82 ?_
      refine gb_iload_n d_X11_readLaw_85 rfl ?_
      refine gb_iload_n d_X11_readLaw_86 rfl ?_
      refine gb_iadd d_X11_readLaw_87 ?_
      refine gb_iconst 0 d_X11_readLaw_88 rfl ?_
      obtain ⟨hi22, h⟩ := gb_ck_e h
      refine gb_iast_ ((y2 + y3).toNatClampNeg) rfl (hS 87 _ rfl) hi22 d_X11_readLaw_89 ?_
      have h := gb_let_e h
      generalize gb_pi g 87 ((y2 + y3).toNatClampNeg) 0 = g23 at h ⊢
      refine gb_iinc (y3 + 1) [(3, .int (y3 + 1)), (0, .ref 77), (1, .int y1), (2, .int y2)] d_X11_readLaw_90 (Nat.le_of_ble_eq_true rfl) rfl rfl rfl ?_
      refine gb_goto 75 d_X11_readLaw_93 (by decide) ?_
      refine gb_pick (lv' := [(0, .ref 77), (1, .int y1), (2, .int y2), (3, .int (y3 + 1))]) [1, 2, 3, 0] rfl ?_
      exact ih _ y1 y2 (y3 + 1) h
set_option maxRecDepth 100000 in
set_option maxHeartbeats 4000000 in
theorem t_X11_readLaw_54 {Γ : gb_X} {sh : List gb_Sh} {out : gb_G} (hS : gb_S sh) : ∀ (g : gb_G) (y1 : Int32) (z0 : Int32), f_X11_readLaw_54 sh g y1 z0 = some out → gb_J Γ M_X11_readLaw 7 (gb_Rv sh out) 0 0 sh g 54 [(0, .ref 77), (1, .int y1)] [.int z0, .ref 77] := by
  intro g y1 z0 h
  unfold f_X11_readLaw_54 at h
  obtain ⟨r1, e2, h⟩ := gb_bd_e h
  refine gb_cVv (As := [.int z0]) (rest := []) m_X11_257 (t_X11_must (Γ := Γ) hS e2) (hS 77 _ rfl) rfl (Nat.le_of_ble_eq_true rfl) rfl rfl (Nat.le_of_ble_eq_true rfl) d_X11_readLaw_54 ?_
  refine gb_aload_n d_X11_readLaw_57 rfl ?_
  refine gb_geti f_X11_224 (hS 77 _ rfl) rfl d_X11_readLaw_58 ?_
  refine gb_if_eq 65 d_X11_readLaw_61 (by decide) (fun hc => ?_) (fun hc => ?_)
  · have h := gb_it hc h
    refine gb_bipush 8 d_X11_readLaw_65 rfl ?_
    refine gb_aload_n d_X11_readLaw_67 rfl ?_
    refine gb_geti f_X11_353 (hS 77 _ rfl) rfl d_X11_readLaw_68 ?_
    refine gb_imul d_X11_readLaw_71 ?_
    refine gb_istore_n [(2, .int (8 * (r1.1 77 21))), (0, .ref 77), (1, .int y1)] d_X11_readLaw_72 (Nat.le_of_ble_eq_true rfl) rfl ?_
    refine gb_iconst 0 d_X11_readLaw_73 rfl ?_
    refine gb_istore_n [(3, .int 0), (2, .int (8 * (r1.1 77 21))), (0, .ref 77), (1, .int y1)] d_X11_readLaw_74 (Nat.le_of_ble_eq_true rfl) rfl ?_
    refine gb_pick (lv' := [(0, .ref 77), (1, .int y1), (2, .int (8 * (r1.1 77 21))), (3, .int 0)]) [2, 3, 1, 0] rfl ?_
    exact t_X11_readLaw_75 hS  gb_N _ y1 (8 * (r1.1 77 21)) 0 h
  · have h := gb_if hc h
    cases h
    exact gb_vret d_X11_readLaw_64 rfl ⟨rfl, rfl, rfl⟩
set_option maxRecDepth 100000 in
set_option maxHeartbeats 4000000 in
theorem t_X11_readLaw_27 {Γ : gb_X} {sh : List gb_Sh} {out : gb_G} (hS : gb_S sh) {K4 : gb_G → Int32 → Int32 → Option (gb_G)} (hK4 : ∀ (g : gb_G) (y1 : Int32) (y2 : Int32), K4 g y1 y2 = some out → gb_J Γ M_X11_readLaw 7 (gb_Rv sh out) 0 0 sh g 4 [(0, .ref 77), (1, .int y1), (2, .int y2)] []) : ∀ (g : gb_G) (y2 : Int32) (z0 : Int32), f_X11_readLaw_27 sh K4 g y2 z0 = some out → gb_J Γ M_X11_readLaw 7 (gb_Rv sh out) 0 0 sh g 27 [(0, .ref 77), (2, .int y2)] [.int z0] := by
  intro g y2 z0 h
  unfold f_X11_readLaw_27 at h
  refine gb_istore_n [(1, .int z0), (0, .ref 77), (2, .int y2)] d_X11_readLaw_27 (Nat.le_of_ble_eq_true rfl) rfl ?_
  refine gb_iinc (y2 + 1) [(2, .int (y2 + 1)), (1, .int z0), (0, .ref 77)] d_X11_readLaw_28 (Nat.le_of_ble_eq_true rfl) rfl rfl rfl ?_
  refine gb_goto 4 d_X11_readLaw_31 (by decide) ?_
  refine gb_pick (lv' := [(0, .ref 77), (1, .int z0), (2, .int (y2 + 1))]) [2, 1, 0] rfl ?_
  exact hK4 _ z0 (y2 + 1) h
set_option maxRecDepth 100000 in
set_option maxHeartbeats 4000000 in
theorem t_X11_readLaw_4 {Γ : gb_X} {sh : List gb_Sh} {out : gb_G} (hS : gb_S sh) : ∀ (n : Nat) (g : gb_G) (y1 : Int32) (y2 : Int32), f_X11_readLaw_4 sh n g y1 y2 = some out → gb_J Γ M_X11_readLaw 7 (gb_Rv sh out) 0 0 sh g 4 [(0, .ref 77), (1, .int y1), (2, .int y2)] [] := by
  intro n
  induction n with
  | zero => intro g y1 y2 h; cases h
  | succ n ih =>
    intro g y1 y2 h
    rw [f_X11_readLaw_4] at h
    refine gb_iload_n d_X11_readLaw_4 rfl ?_
    refine gb_iconst 4 d_X11_readLaw_5 rfl ?_
    refine gb_icmp_ge 34 d_X11_readLaw_6 (by decide) (fun hc => ?_) (fun hc => ?_)
    · have h := gb_it hc h
      refine gb_aload_n d_X11_readLaw_34 rfl ?_
      refine gb_iload_n d_X11_readLaw_35 rfl ?_
      refine gb_iconst (-1) d_X11_readLaw_36 rfl ?_
      refine gb_icmp_eq 53 d_X11_readLaw_37 (by decide) (fun hc => ?_) (fun hc => ?_)
      · have h := gb_it hc h
        refine gb_iconst 0 d_X11_readLaw_53 rfl ?_
        refine gb_pick (lv' := [(0, .ref 77), (1, .int y1)]) [0, 1] rfl ?_
        exact t_X11_readLaw_54 hS  _ y1 0 h
      · have h := gb_if hc h
        refine gb_aload_n d_X11_readLaw_40 rfl ?_
        refine gb_geti f_X11_353 (hS 77 _ rfl) rfl d_X11_readLaw_41 ?_
        refine gb_bipush 12 d_X11_readLaw_44 rfl ?_
        refine gb_icmp_ge 53 d_X11_readLaw_46 (by decide) (fun hc => ?_) (fun hc => ?_)
        · have h := gb_it hc h
          refine gb_iconst 0 d_X11_readLaw_53 rfl ?_
          refine gb_pick (lv' := [(0, .ref 77), (1, .int y1)]) [0, 1] rfl ?_
          exact t_X11_readLaw_54 hS  _ y1 0 h
        · have h := gb_if hc h
          refine gb_iconst 1 d_X11_readLaw_49 rfl ?_
          refine gb_goto 54 d_X11_readLaw_50 (by decide) ?_
          refine gb_pick (lv' := [(0, .ref 77), (1, .int y1)]) [0, 1] rfl ?_
          exact t_X11_readLaw_54 hS  _ y1 1 h
    · have h := gb_if hc h
      refine gb_aload_n d_X11_readLaw_9 rfl ?_
      refine gb_aload_n d_X11_readLaw_10 rfl ?_
      refine gb_getr (r := 94) f_X11_98 (hS 77 _ rfl) rfl d_X11_readLaw_11 ?_
      refine gb_iload_n d_X11_readLaw_14 rfl ?_
      obtain ⟨hi24, h⟩ := gb_ck_e h
      refine gb_lald_ y2.toNatClampNeg rfl (hS 94 _ rfl) hi24 d_X11_readLaw_15 ?_
      obtain ⟨r25, e26, h⟩ := gb_bd_e h
      refine gb_cVi (As := [.long (g.2.1 94 y2.toNatClampNeg)]) (rest := []) m_X11_280 (t_X11_isWord (Γ := Γ) hS e26) (hS 77 _ rfl) rfl (Nat.le_of_ble_eq_true rfl) rfl rfl (Nat.le_of_ble_eq_true rfl) d_X11_readLaw_16 ?_
      refine gb_if_eq 26 d_X11_readLaw_19 (by decide) (fun hc => ?_) (fun hc => ?_)
      · have h := gb_it hc h
        refine gb_iload_n d_X11_readLaw_26 rfl ?_
        refine gb_pick (lv' := [(0, .ref 77), (2, .int y2)]) [0, 2] rfl ?_
        exact t_X11_readLaw_27 hS (fun w w0 w1 hw => ih w w0 w1 hw) _ y2 y1 h
      · have h := gb_if hc h
        refine gb_iload_n d_X11_readLaw_22 rfl ?_
        refine gb_goto 27 d_X11_readLaw_23 (by decide) ?_
        refine gb_pick (lv' := [(0, .ref 77), (2, .int y2)]) [0, 2] rfl ?_
        exact t_X11_readLaw_27 hS (fun w w0 w1 hw => ih w w0 w1 hw) _ y2 y2 h
set_option maxRecDepth 100000 in
set_option maxHeartbeats 4000000 in
theorem t_X11_readLaw {Γ : gb_X} {sh : List gb_Sh} {out : gb_G} (hS : gb_S sh) {g : gb_G} (h : f_X11_readLaw sh g = some out) : gb_C Γ M_X11_readLaw 7 0 0 sh g [.ref 77] (gb_Rv sh out) := by
  refine gb_C.of rfl (Nat.le_of_ble_eq_true rfl) ?_
  refine gb_pick (lv' := [(0, .ref 77)]) [0] rfl ?_
  unfold f_X11_readLaw at h
  refine gb_iconst (-1) d_X11_readLaw_0 rfl ?_
  refine gb_istore_n [(1, .int (-1)), (0, .ref 77)] d_X11_readLaw_1 (Nat.le_of_ble_eq_true rfl) rfl ?_
  refine gb_iconst 0 d_X11_readLaw_2 rfl ?_
  refine gb_istore_n [(2, .int 0), (1, .int (-1)), (0, .ref 77)] d_X11_readLaw_3 (Nat.le_of_ble_eq_true rfl) rfl ?_
  refine gb_pick (lv' := [(0, .ref 77), (1, .int (-1)), (2, .int 0)]) [2, 1, 0] rfl ?_
  exact t_X11_readLaw_4 hS  gb_N _ (-1) 0 h
-- X11_law
noncomputable def f_X11_law_145 (sh : List gb_Sh) : Nat → gb_G → Int32 → Int32 → Option (gb_G × Int32)
  | 0, _, _, _ => none
  | n + 1, g, y1, y2 => if (g.1 77 23) ≤ y2 then (gb_let (gb_pi g 79 3 ((g.1 79 3) + 1)) (fun g10 => gb_bd (f_X11_tell sh g10 ((g10.1 79 3) - 1)) (fun r11 => some (r11.1, r11.2)))) else (gb_ck y2 400 (gb_ck ((y1 + 98) + (2 * y2)) 5520 (gb_let (gb_pi g 79 (((y1 + 98) + (2 * y2)).toNatClampNeg) (g.1 88 y2.toNatClampNeg)) (fun g15 => gb_ck y2 400 (gb_ck (((y1 + 98) + (2 * y2)) + 1) 5520 (gb_let (gb_pi g15 79 ((((y1 + 98) + (2 * y2)) + 1).toNatClampNeg) (g15.1 89 y2.toNatClampNeg)) (fun g18 => f_X11_law_145 sh n g18 y1 (y2 + 1))))))))
noncomputable def f_X11_law_110 (sh : List gb_Sh) : Nat → gb_G → Int32 → Int32 → Option (gb_G × Int32)
  | 0, _, _, _ => none
  | n + 1, g, y1, y2 => if (8 * (g.1 77 21)) ≤ y2 then (f_X11_law_145 sh gb_N g y1 0) else (gb_ck y2 96 (gb_ck ((y1 + 2) + y2) 5520 (gb_let (gb_pi g 79 (((y1 + 2) + y2).toNatClampNeg) (g.1 87 y2.toNatClampNeg)) (fun g21 => f_X11_law_110 sh n g21 y1 (y2 + 1)))))
noncomputable def f_X11_law_64 (sh : List gb_Sh) (g : gb_G)  : Option (gb_G × Int32) := gb_bd (f_X11_endText sh g) (fun r6 => if (r6.1 77 19) = 0 then (gb_ck ((120 + (900 * (r6.1 79 3))) + 1) 5520 (gb_let (gb_pi r6 79 (((120 + (900 * (r6.1 79 3))) + 1).toNatClampNeg) (r6.1 77 21)) (fun g9 => f_X11_law_110 sh gb_N g9 (120 + (900 * (r6.1 79 3))) 0))) else (gb_bd (f_X11_tell sh r6 (-6)) (fun r22 => some (r22.1, r22.2))))
noncomputable def f_X11_law_37 (sh : List gb_Sh) : Nat → gb_G → Option (gb_G × Int32)
  | 0, _ => none
  | n + 1, g => if (g.1 77 19) = 0 then (gb_bd (f_X11_isSign sh g 59) (fun r24 => if r24.2 = 0 then (f_X11_law_64 sh r24.1 ) else (gb_bd (f_X11_next sh r24.1) (fun r26 => gb_bd (f_X11_readLaw sh r26) (fun r28 => f_X11_law_37 sh n r28 ))))) else (f_X11_law_64 sh g )
noncomputable def f_X11_law (sh : List gb_Sh) (g : gb_G) : Option (gb_G × Int32) := gb_let (gb_pi g 77 0 0) (fun g1 => if (g1.1 79 3) = 6 then (gb_let (gb_pi g1 77 13 0) (fun g30 => gb_bd (f_X11_tell sh g30 (-5)) (fun r31 => some (r31.1, r31.2)))) else (gb_bd (f_X11_beginText sh g1 0) (fun r2 => gb_bd (f_X11_readLaw sh r2) (fun r4 => f_X11_law_37 sh gb_N r4 ))))
set_option maxRecDepth 100000 in
set_option maxHeartbeats 4000000 in
theorem t_X11_law_145 {Γ : gb_X} {sh : List gb_Sh} {out : gb_G × Int32} (hS : gb_S sh) : ∀ (n : Nat) (g : gb_G) (y1 : Int32) (y2 : Int32), f_X11_law_145 sh n g y1 y2 = some out → gb_J Γ M_X11_law 8 (gb_Ri sh out) 0 0 sh g 145 [(0, .ref 77), (1, .int y1), (2, .int y2)] [] := by
  intro n
  induction n with
  | zero => intro g y1 y2 h; cases h
  | succ n ih =>
    intro g y1 y2 h
    rw [f_X11_law_145] at h
    refine gb_iload_n d_X11_law_145 rfl ?_
    refine gb_aload_n d_X11_law_146 rfl ?_
    refine gb_geti f_X11_261 (hS 77 _ rfl) rfl d_X11_law_147 ?_
    refine gb_icmp_ge 199 d_X11_law_150 (by decide) (fun hc => ?_) (fun hc => ?_)
    · have h := gb_it hc h
      refine gb_aload_n d_X11_law_199 rfl ?_
      refine gb_getr (r := 79) f_X11_13 (hS 77 _ rfl) rfl d_X11_law_200 ?_
      refine gb_iconst 3 d_X11_law_203 rfl ?_
      refine gb_dup2 d_X11_law_204 rfl rfl ?_
      refine gb_iald_ 3 rfl (hS 79 _ rfl) (by unfold vp_in; decide) d_X11_law_205 ?_
      refine gb_iconst 1 d_X11_law_206 rfl ?_
      refine gb_iadd d_X11_law_207 ?_
      refine gb_iast_ 3 rfl (hS 79 _ rfl) (by unfold vp_in; decide) d_X11_law_208 ?_
      have h := gb_let_e h
      generalize gb_pi g 79 3 ((g.1 79 3) + 1) = g10 at h ⊢
      refine gb_aload_n d_X11_law_209 rfl ?_
      refine gb_aload_n d_X11_law_210 rfl ?_
      refine gb_getr (r := 79) f_X11_13 (hS 77 _ rfl) rfl d_X11_law_211 ?_
      refine gb_iconst 3 d_X11_law_214 rfl ?_
      refine gb_iald_ 3 rfl (hS 79 _ rfl) (by unfold vp_in; decide) d_X11_law_215 ?_
      refine gb_iconst 1 d_X11_law_216 rfl ?_
      refine gb_isub d_X11_law_217 ?_
      obtain ⟨r11, e12, h⟩ := gb_bd_e h
      refine gb_cVi (As := [.int ((g10.1 79 3) - 1)]) (rest := []) m_X11_154 (t_X11_tell (Γ := Γ) hS e12) (hS 77 _ rfl) rfl (Nat.le_of_ble_eq_true rfl) rfl rfl (Nat.le_of_ble_eq_true rfl) d_X11_law_218 ?_
      cases h
      exact gb_iret d_X11_law_221 rfl ⟨rfl, rfl, rfl⟩
    · have h := gb_if hc h
      refine gb_aload_n d_X11_law_153 rfl ?_
      refine gb_getr (r := 79) f_X11_13 (hS 77 _ rfl) rfl d_X11_law_154 ?_
      refine gb_iload_n d_X11_law_157 rfl ?_
      refine gb_bipush 98 d_X11_law_158 rfl ?_
      refine gb_iadd d_X11_law_160 ?_
      refine gb_iconst 2 d_X11_law_161 rfl ?_
      refine gb_iload_n d_X11_law_162 rfl ?_
      refine gb_imul d_X11_law_163 ?_
      refine gb_iadd d_X11_law_164 ?_
      refine gb_aload_n d_X11_law_165 rfl ?_
      refine gb_getr (r := 88) f_X11_45 (hS 77 _ rfl) rfl d_X11_law_166 ?_
      refine gb_iload_n d_X11_law_169 rfl ?_
      obtain ⟨hi13, h⟩ := gb_ck_e h
      refine gb_iald_ y2.toNatClampNeg rfl (hS 88 _ rfl) hi13 d_X11_law_170 ?_
      obtain ⟨hi14, h⟩ := gb_ck_e h
      refine gb_iast_ (((y1 + 98) + (2 * y2)).toNatClampNeg) rfl (hS 79 _ rfl) hi14 d_X11_law_171 ?_
      have h := gb_let_e h
      generalize gb_pi g 79 (((y1 + 98) + (2 * y2)).toNatClampNeg) (g.1 88 y2.toNatClampNeg) = g15 at h ⊢
      refine gb_aload_n d_X11_law_172 rfl ?_
      refine gb_getr (r := 79) f_X11_13 (hS 77 _ rfl) rfl d_X11_law_173 ?_
      refine gb_iload_n d_X11_law_176 rfl ?_
      refine gb_bipush 98 d_X11_law_177 rfl ?_
      refine gb_iadd d_X11_law_179 ?_
      refine gb_iconst 2 d_X11_law_180 rfl ?_
      refine gb_iload_n d_X11_law_181 rfl ?_
      refine gb_imul d_X11_law_182 ?_
      refine gb_iadd d_X11_law_183 ?_
      refine gb_iconst 1 d_X11_law_184 rfl ?_
      refine gb_iadd d_X11_law_185 ?_
      refine gb_aload_n d_X11_law_186 rfl ?_
      refine gb_getr (r := 89) f_X11_48 (hS 77 _ rfl) rfl d_X11_law_187 ?_
      refine gb_iload_n d_X11_law_190 rfl ?_
      obtain ⟨hi16, h⟩ := gb_ck_e h
      refine gb_iald_ y2.toNatClampNeg rfl (hS 89 _ rfl) hi16 d_X11_law_191 ?_
      obtain ⟨hi17, h⟩ := gb_ck_e h
      refine gb_iast_ ((((y1 + 98) + (2 * y2)) + 1).toNatClampNeg) rfl (hS 79 _ rfl) hi17 d_X11_law_192 ?_
      have h := gb_let_e h
      generalize gb_pi g15 79 ((((y1 + 98) + (2 * y2)) + 1).toNatClampNeg) (g15.1 89 y2.toNatClampNeg) = g18 at h ⊢
      refine gb_iinc (y2 + 1) [(2, .int (y2 + 1)), (0, .ref 77), (1, .int y1)] d_X11_law_193 (Nat.le_of_ble_eq_true rfl) rfl rfl rfl ?_
      refine gb_goto 145 d_X11_law_196 (by decide) ?_
      refine gb_pick (lv' := [(0, .ref 77), (1, .int y1), (2, .int (y2 + 1))]) [1, 2, 0] rfl ?_
      exact ih _ y1 (y2 + 1) h
set_option maxRecDepth 100000 in
set_option maxHeartbeats 4000000 in
theorem t_X11_law_110 {Γ : gb_X} {sh : List gb_Sh} {out : gb_G × Int32} (hS : gb_S sh) : ∀ (n : Nat) (g : gb_G) (y1 : Int32) (y2 : Int32), f_X11_law_110 sh n g y1 y2 = some out → gb_J Γ M_X11_law 8 (gb_Ri sh out) 0 0 sh g 110 [(0, .ref 77), (1, .int y1), (2, .int y2)] [] := by
  intro n
  induction n with
  | zero => intro g y1 y2 h; cases h
  | succ n ih =>
    intro g y1 y2 h
    rw [f_X11_law_110] at h
    refine gb_iload_n d_X11_law_110 rfl ?_
    refine gb_bipush 8 d_X11_law_111 rfl ?_
    refine gb_aload_n d_X11_law_113 rfl ?_
    refine gb_geti f_X11_353 (hS 77 _ rfl) rfl d_X11_law_114 ?_
    refine gb_imul d_X11_law_117 ?_
    refine gb_icmp_ge 143 d_X11_law_118 (by decide) (fun hc => ?_) (fun hc => ?_)
    · have h := gb_it hc h
      refine gb_iconst 0 d_X11_law_143 rfl ?_
      refine gb_istore_n [(2, .int 0), (0, .ref 77), (1, .int y1)] d_X11_law_144 (Nat.le_of_ble_eq_true rfl) rfl ?_
      refine gb_pick (lv' := [(0, .ref 77), (1, .int y1), (2, .int 0)]) [1, 2, 0] rfl ?_
      exact t_X11_law_145 hS  gb_N _ y1 0 h
    · have h := gb_if hc h
      refine gb_aload_n d_X11_law_121 rfl ?_
      refine gb_getr (r := 79) f_X11_13 (hS 77 _ rfl) rfl d_X11_law_122 ?_
      refine gb_iload_n d_X11_law_125 rfl ?_
      refine gb_iconst 2 d_X11_law_126 rfl ?_
      refine gb_iadd d_X11_law_127 ?_
      refine gb_iload_n d_X11_law_128 rfl ?_
      refine gb_iadd d_X11_law_129 ?_
      refine gb_aload_n d_X11_law_130 rfl ?_
      refine gb_getr (r := 87) f_X11_42 (hS 77 _ rfl) rfl d_X11_law_131 ?_
      refine gb_iload_n d_X11_law_134 rfl ?_
      obtain ⟨hi19, h⟩ := gb_ck_e h
      refine gb_iald_ y2.toNatClampNeg rfl (hS 87 _ rfl) hi19 d_X11_law_135 ?_
      obtain ⟨hi20, h⟩ := gb_ck_e h
      refine gb_iast_ (((y1 + 2) + y2).toNatClampNeg) rfl (hS 79 _ rfl) hi20 d_X11_law_136 ?_
      have h := gb_let_e h
      generalize gb_pi g 79 (((y1 + 2) + y2).toNatClampNeg) (g.1 87 y2.toNatClampNeg) = g21 at h ⊢
      refine gb_iinc (y2 + 1) [(2, .int (y2 + 1)), (0, .ref 77), (1, .int y1)] d_X11_law_137 (Nat.le_of_ble_eq_true rfl) rfl rfl rfl ?_
      refine gb_goto 110 d_X11_law_140 (by decide) ?_
      refine gb_pick (lv' := [(0, .ref 77), (1, .int y1), (2, .int (y2 + 1))]) [1, 2, 0] rfl ?_
      exact ih _ y1 (y2 + 1) h
set_option maxRecDepth 100000 in
set_option maxHeartbeats 4000000 in
theorem t_X11_law_64 {Γ : gb_X} {sh : List gb_Sh} {out : gb_G × Int32} (hS : gb_S sh) : ∀ (g : gb_G) , f_X11_law_64 sh g  = some out → gb_J Γ M_X11_law 8 (gb_Ri sh out) 0 0 sh g 64 [(0, .ref 77)] [] := by
  intro g  h
  unfold f_X11_law_64 at h
  refine gb_aload_n d_X11_law_64 rfl ?_
  obtain ⟨r6, e7, h⟩ := gb_bd_e h
  refine gb_cVv (As := []) (rest := []) m_X11_367 (t_X11_endText (Γ := Γ) hS e7) (hS 77 _ rfl) rfl (Nat.le_of_ble_eq_true rfl) rfl rfl (Nat.le_of_ble_eq_true rfl) d_X11_law_65 ?_
  refine gb_aload_n d_X11_law_68 rfl ?_
  refine gb_geti f_X11_224 (hS 77 _ rfl) rfl d_X11_law_69 ?_
  refine gb_if_eq 82 d_X11_law_72 (by decide) (fun hc => ?_) (fun hc => ?_)
  · have h := gb_it hc h
    refine gb_bipush 120 d_X11_law_82 rfl ?_
    refine gb_sipush 900 d_X11_law_84 rfl ?_
    refine gb_aload_n d_X11_law_87 rfl ?_
    refine gb_getr (r := 79) f_X11_13 (hS 77 _ rfl) rfl d_X11_law_88 ?_
    refine gb_iconst 3 d_X11_law_91 rfl ?_
    refine gb_iald_ 3 rfl (hS 79 _ rfl) (by unfold vp_in; decide) d_X11_law_92 ?_
    refine gb_imul d_X11_law_93 ?_
    refine gb_iadd d_X11_law_94 ?_
    refine gb_istore_n [(1, .int (120 + (900 * (r6.1 79 3)))), (0, .ref 77)] d_X11_law_95 (Nat.le_of_ble_eq_true rfl) rfl ?_
    refine gb_aload_n d_X11_law_96 rfl ?_
    refine gb_getr (r := 79) f_X11_13 (hS 77 _ rfl) rfl d_X11_law_97 ?_
    refine gb_iload_n d_X11_law_100 rfl ?_
    refine gb_iconst 1 d_X11_law_101 rfl ?_
    refine gb_iadd d_X11_law_102 ?_
    refine gb_aload_n d_X11_law_103 rfl ?_
    refine gb_geti f_X11_353 (hS 77 _ rfl) rfl d_X11_law_104 ?_
    obtain ⟨hi8, h⟩ := gb_ck_e h
    refine gb_iast_ (((120 + (900 * (r6.1 79 3))) + 1).toNatClampNeg) rfl (hS 79 _ rfl) hi8 d_X11_law_107 ?_
    have h := gb_let_e h
    generalize gb_pi r6 79 (((120 + (900 * (r6.1 79 3))) + 1).toNatClampNeg) (r6.1 77 21) = g9 at h ⊢
    refine gb_iconst 0 d_X11_law_108 rfl ?_
    refine gb_istore_n [(2, .int 0), (1, .int (120 + (900 * (r6.1 79 3)))), (0, .ref 77)] d_X11_law_109 (Nat.le_of_ble_eq_true rfl) rfl ?_
    refine gb_pick (lv' := [(0, .ref 77), (1, .int (120 + (900 * (r6.1 79 3)))), (2, .int 0)]) [2, 1, 0] rfl ?_
    exact t_X11_law_110 hS  gb_N _ (120 + (900 * (r6.1 79 3))) 0 h
  · have h := gb_if hc h
    refine gb_aload_n d_X11_law_75 rfl ?_
    refine gb_bipush (-6) d_X11_law_76 rfl ?_
    obtain ⟨r22, e23, h⟩ := gb_bd_e h
    refine gb_cVi (As := [.int (-6)]) (rest := []) m_X11_154 (t_X11_tell (Γ := Γ) hS e23) (hS 77 _ rfl) rfl (Nat.le_of_ble_eq_true rfl) rfl rfl (Nat.le_of_ble_eq_true rfl) d_X11_law_78 ?_
    cases h
    exact gb_iret d_X11_law_81 rfl ⟨rfl, rfl, rfl⟩
set_option maxRecDepth 100000 in
set_option maxHeartbeats 4000000 in
theorem t_X11_law_37 {Γ : gb_X} {sh : List gb_Sh} {out : gb_G × Int32} (hS : gb_S sh) : ∀ (n : Nat) (g : gb_G) , f_X11_law_37 sh n g  = some out → gb_J Γ M_X11_law 8 (gb_Ri sh out) 0 0 sh g 37 [(0, .ref 77)] [] := by
  intro n
  induction n with
  | zero => intro g  h; cases h
  | succ n ih =>
    intro g  h
    rw [f_X11_law_37] at h
    refine gb_aload_n d_X11_law_37 rfl ?_
    refine gb_geti f_X11_224 (hS 77 _ rfl) rfl d_X11_law_38 ?_
    refine gb_if_ne 64 d_X11_law_41 (by decide) (fun hc => ?_) (fun hc => ?_)
    · have h := gb_if hc h
      exact t_X11_law_64 hS  _  h
    · have h := gb_it hc h
      refine gb_aload_n d_X11_law_44 rfl ?_
      refine gb_bipush 59 d_X11_law_45 rfl ?_
      obtain ⟨r24, e25, h⟩ := gb_bd_e h
      refine gb_cVi (As := [.int 59]) (rest := []) m_X11_293 (t_X11_isSign (Γ := Γ) hS e25) (hS 77 _ rfl) rfl (Nat.le_of_ble_eq_true rfl) rfl rfl (Nat.le_of_ble_eq_true rfl) d_X11_law_47 ?_
      refine gb_if_eq 64 d_X11_law_50 (by decide) (fun hc => ?_) (fun hc => ?_)
      · have h := gb_it hc h
        exact t_X11_law_64 hS  _  h
      · have h := gb_if hc h
        refine gb_aload_n d_X11_law_53 rfl ?_
        obtain ⟨r26, e27, h⟩ := gb_bd_e h
        refine gb_cVv (As := []) (rest := []) m_X11_228 (t_X11_next (Γ := Γ) hS e27) (hS 77 _ rfl) rfl (Nat.le_of_ble_eq_true rfl) rfl rfl (Nat.le_of_ble_eq_true rfl) d_X11_law_54 ?_
        refine gb_aload_n d_X11_law_57 rfl ?_
        obtain ⟨r28, e29, h⟩ := gb_bd_e h
        refine gb_cVv (As := []) (rest := []) m_X11_364 (t_X11_readLaw (Γ := Γ) hS e29) (hS 77 _ rfl) rfl (Nat.le_of_ble_eq_true rfl) rfl rfl (Nat.le_of_ble_eq_true rfl) d_X11_law_58 ?_
        refine gb_goto 37 d_X11_law_61 (by decide) ?_
        exact ih _  h
set_option maxRecDepth 100000 in
set_option maxHeartbeats 4000000 in
theorem t_X11_law {Γ : gb_X} {sh : List gb_Sh} {out : gb_G × Int32} (hS : gb_S sh) {g : gb_G} (h : f_X11_law sh g = some out) : gb_C Γ M_X11_law 8 0 0 sh g [.ref 77] (gb_Ri sh out) := by
  refine gb_C.of rfl (Nat.le_of_ble_eq_true rfl) ?_
  refine gb_pick (lv' := [(0, .ref 77)]) [0] rfl ?_
  unfold f_X11_law at h
  refine gb_aload_n d_X11_law_0 rfl ?_
  refine gb_iconst 0 d_X11_law_1 rfl ?_
  refine gb_puti f_X11_145 (fun h => nomatch h) (hS 77 _ rfl) rfl rfl rfl d_X11_law_2 ?_
  have h := gb_let_e h
  generalize gb_pi g 77 0 0 = g1 at h ⊢
  refine gb_aload_n d_X11_law_5 rfl ?_
  refine gb_getr (r := 79) f_X11_13 (hS 77 _ rfl) rfl d_X11_law_6 ?_
  refine gb_iconst 3 d_X11_law_9 rfl ?_
  refine gb_iald_ 3 rfl (hS 79 _ rfl) (by unfold vp_in; decide) d_X11_law_10 ?_
  refine gb_bipush 6 d_X11_law_11 rfl ?_
  refine gb_icmp_ne 28 d_X11_law_13 (by decide) (fun hc => ?_) (fun hc => ?_)
  · have h := gb_if hc h
    refine gb_aload_n d_X11_law_28 rfl ?_
    refine gb_iconst 0 d_X11_law_29 rfl ?_
    obtain ⟨r2, e3, h⟩ := gb_bd_e h
    refine gb_cVv (As := [.int 0]) (rest := []) m_X11_361 (t_X11_beginText (Γ := Γ) hS e3) (hS 77 _ rfl) rfl (Nat.le_of_ble_eq_true rfl) rfl rfl (Nat.le_of_ble_eq_true rfl) d_X11_law_30 ?_
    refine gb_aload_n d_X11_law_33 rfl ?_
    obtain ⟨r4, e5, h⟩ := gb_bd_e h
    refine gb_cVv (As := []) (rest := []) m_X11_364 (t_X11_readLaw (Γ := Γ) hS e5) (hS 77 _ rfl) rfl (Nat.le_of_ble_eq_true rfl) rfl rfl (Nat.le_of_ble_eq_true rfl) d_X11_law_34 ?_
    exact t_X11_law_37 hS  gb_N _  h
  · have h := gb_it hc h
    refine gb_aload_n d_X11_law_16 rfl ?_
    refine gb_iconst 0 d_X11_law_17 rfl ?_
    refine gb_puti f_X11_212 (fun h => nomatch h) (hS 77 _ rfl) rfl rfl rfl d_X11_law_18 ?_
    have h := gb_let_e h
    generalize gb_pi g1 77 13 0 = g30 at h ⊢
    refine gb_aload_n d_X11_law_21 rfl ?_
    refine gb_bipush (-5) d_X11_law_22 rfl ?_
    obtain ⟨r31, e32, h⟩ := gb_bd_e h
    refine gb_cVi (As := [.int (-5)]) (rest := []) m_X11_154 (t_X11_tell (Γ := Γ) hS e32) (hS 77 _ rfl) rfl (Nat.le_of_ble_eq_true rfl) rfl rfl (Nat.le_of_ble_eq_true rfl) d_X11_law_24 ?_
    cases h
    exact gb_iret d_X11_law_27 rfl ⟨rfl, rfl, rfl⟩
-- X11_isLaw
noncomputable def f_X11_isLaw (sh : List gb_Sh) (g : gb_G) (x1 : Int32) : Option (gb_G × Int32) := if x1 = (-1) then (some (g, 1)) else (gb_bd (f_X11_in sh g x1.toInt64 0 (((g.1 79 3).toInt64) - 1)) (fun r1 => if r1.2 = 0 then (some (r1.1, 0)) else (some (r1.1, 1))))
set_option maxRecDepth 100000 in
set_option maxHeartbeats 4000000 in
theorem t_X11_isLaw {Γ : gb_X} {sh : List gb_Sh} {x1 : Int32} {out : gb_G × Int32} (hS : gb_S sh) {g : gb_G} (h : f_X11_isLaw sh g x1 = some out) : gb_C Γ M_X11_isLaw 1 0 0 sh g [.ref 77, .int x1] (gb_Ri sh out) := by
  refine gb_C.of rfl (Nat.le_of_ble_eq_true rfl) ?_
  refine gb_pick (lv' := [(0, .ref 77), (1, .int x1)]) [0, 1] rfl ?_
  unfold f_X11_isLaw at h
  refine gb_iload_n d_X11_isLaw_0 rfl ?_
  refine gb_iconst (-1) d_X11_isLaw_1 rfl ?_
  refine gb_icmp_eq 23 d_X11_isLaw_2 (by decide) (fun hc => ?_) (fun hc => ?_)
  · have h := gb_it hc h
    refine gb_iconst 1 d_X11_isLaw_23 rfl ?_
    refine gb_goto 28 d_X11_isLaw_24 (by decide) ?_
    cases h
    exact gb_zret d_X11_isLaw_28 rfl rfl ⟨rfl, rfl, rfl⟩
  · have h := gb_if hc h
    refine gb_iload_n d_X11_isLaw_5 rfl ?_
    refine gb_i2l d_X11_isLaw_6 ?_
    refine gb_lconst 0 d_X11_isLaw_7 rfl ?_
    refine gb_aload_n d_X11_isLaw_8 rfl ?_
    refine gb_getr (r := 79) f_X11_13 (hS 77 _ rfl) rfl d_X11_isLaw_9 ?_
    refine gb_iconst 3 d_X11_isLaw_12 rfl ?_
    refine gb_iald_ 3 rfl (hS 79 _ rfl) (by unfold vp_in; decide) d_X11_isLaw_13 ?_
    refine gb_i2l d_X11_isLaw_14 ?_
    refine gb_lconst 1 d_X11_isLaw_15 rfl ?_
    refine gb_lsub d_X11_isLaw_16 ?_
    obtain ⟨r1, e2, h⟩ := gb_bd_e h
    refine gb_cSi (As := [.long x1.toInt64, .long 0, .long (((g.1 79 3).toInt64) - 1)]) (rest := []) m_X11_165 (t_X11_in (Γ := Γ) hS e2) (Nat.le_of_ble_eq_true rfl) rfl rfl (Nat.le_of_ble_eq_true rfl) d_X11_isLaw_17 ?_
    refine gb_if_eq 27 d_X11_isLaw_20 (by decide) (fun hc => ?_) (fun hc => ?_)
    · have h := gb_it hc h
      refine gb_iconst 0 d_X11_isLaw_27 rfl ?_
      cases h
      exact gb_zret d_X11_isLaw_28 rfl rfl ⟨rfl, rfl, rfl⟩
    · have h := gb_if hc h
      refine gb_iconst 1 d_X11_isLaw_23 rfl ?_
      refine gb_goto 28 d_X11_isLaw_24 (by decide) ?_
      cases h
      exact gb_zret d_X11_isLaw_28 rfl rfl ⟨rfl, rfl, rfl⟩
-- X11_force
noncomputable def f_X11_force (sh : List gb_Sh) (g : gb_G) (x1 : Int32) : Option (gb_G × Int32) := gb_let (gb_pi g 77 0 0) (fun g1 => gb_bd (f_X11_isLaw sh g1 x1) (fun r2 => if r2.2 = 0 then (gb_bd (f_X11_tell sh r2.1 (-2)) (fun r4 => some (r4.1, r4.2))) else (gb_bd (f_X11_change sh r2.1 4 x1) (fun r6 => some (r6.1, r6.2)))))
set_option maxRecDepth 100000 in
set_option maxHeartbeats 4000000 in
theorem t_X11_force {Γ : gb_X} {sh : List gb_Sh} {x1 : Int32} {out : gb_G × Int32} (hS : gb_S sh) {g : gb_G} (h : f_X11_force sh g x1 = some out) : gb_C Γ M_X11_force 2 0 0 sh g [.ref 77, .int x1] (gb_Ri sh out) := by
  refine gb_C.of rfl (Nat.le_of_ble_eq_true rfl) ?_
  refine gb_pick (lv' := [(0, .ref 77), (1, .int x1)]) [0, 1] rfl ?_
  unfold f_X11_force at h
  refine gb_aload_n d_X11_force_0 rfl ?_
  refine gb_iconst 0 d_X11_force_1 rfl ?_
  refine gb_puti f_X11_145 (fun h => nomatch h) (hS 77 _ rfl) rfl rfl rfl d_X11_force_2 ?_
  have h := gb_let_e h
  generalize gb_pi g 77 0 0 = g1 at h ⊢
  refine gb_aload_n d_X11_force_5 rfl ?_
  refine gb_iload_n d_X11_force_6 rfl ?_
  obtain ⟨r2, e3, h⟩ := gb_bd_e h
  refine gb_cVi (As := [.int x1]) (rest := []) m_X11_370 (t_X11_isLaw (Γ := Γ) hS e3) (hS 77 _ rfl) rfl (Nat.le_of_ble_eq_true rfl) rfl rfl (Nat.le_of_ble_eq_true rfl) d_X11_force_7 ?_
  refine gb_if_eq 22 d_X11_force_10 (by decide) (fun hc => ?_) (fun hc => ?_)
  · have h := gb_it hc h
    refine gb_aload_n d_X11_force_22 rfl ?_
    refine gb_bipush (-2) d_X11_force_23 rfl ?_
    obtain ⟨r4, e5, h⟩ := gb_bd_e h
    refine gb_cVi (As := [.int (-2)]) (rest := []) m_X11_154 (t_X11_tell (Γ := Γ) hS e5) (hS 77 _ rfl) rfl (Nat.le_of_ble_eq_true rfl) rfl rfl (Nat.le_of_ble_eq_true rfl) d_X11_force_25 ?_
    cases h
    exact gb_iret d_X11_force_28 rfl ⟨rfl, rfl, rfl⟩
  · have h := gb_if hc h
    refine gb_aload_n d_X11_force_13 rfl ?_
    refine gb_iconst 4 d_X11_force_14 rfl ?_
    refine gb_iload_n d_X11_force_15 rfl ?_
    obtain ⟨r6, e7, h⟩ := gb_bd_e h
    refine gb_cVi (As := [.int 4, .int x1]) (rest := []) m_X11_204 (t_X11_change (Γ := Γ) hS e7) (hS 77 _ rfl) rfl (Nat.le_of_ble_eq_true rfl) rfl rfl (Nat.le_of_ble_eq_true rfl) d_X11_force_16 ?_
    refine gb_goto 28 d_X11_force_19 (by decide) ?_
    cases h
    exact gb_iret d_X11_force_28 rfl ⟨rfl, rfl, rfl⟩
-- X11_pricedBy
noncomputable def f_X11_pricedBy (sh : List gb_Sh) (g : gb_G) (x1 : Int32) : Option (gb_G × Int32) := gb_ck (16 + x1) 5520 (if (g.1 79 ((16 + x1).toNatClampNeg)) = 1 then (gb_ck (56 + x1) 5520 (if (g.1 79 ((56 + x1).toNatClampNeg)) = (-1) then (some (g, x1)) else (gb_ck (56 + x1) 5520 (some (g, (g.1 79 ((56 + x1).toNatClampNeg))))))) else (some (g, x1)))
set_option maxRecDepth 100000 in
set_option maxHeartbeats 4000000 in
theorem t_X11_pricedBy {Γ : gb_X} {sh : List gb_Sh} {x1 : Int32} {out : gb_G × Int32} (hS : gb_S sh) {g : gb_G} (h : f_X11_pricedBy sh g x1 = some out) : gb_C Γ M_X11_pricedBy 0 0 0 sh g [.ref 77, .int x1] (gb_Ri sh out) := by
  refine gb_C.of rfl (Nat.le_of_ble_eq_true rfl) ?_
  refine gb_pick (lv' := [(0, .ref 77), (1, .int x1)]) [0, 1] rfl ?_
  unfold f_X11_pricedBy at h
  refine gb_aload_n d_X11_pricedBy_0 rfl ?_
  refine gb_getr (r := 79) f_X11_13 (hS 77 _ rfl) rfl d_X11_pricedBy_1 ?_
  refine gb_bipush 16 d_X11_pricedBy_4 rfl ?_
  refine gb_iload_n d_X11_pricedBy_6 rfl ?_
  refine gb_iadd d_X11_pricedBy_7 ?_
  obtain ⟨hi1, h⟩ := gb_ck_e h
  refine gb_iald_ ((16 + x1).toNatClampNeg) rfl (hS 79 _ rfl) hi1 d_X11_pricedBy_8 ?_
  refine gb_iconst 1 d_X11_pricedBy_9 rfl ?_
  refine gb_icmp_ne 38 d_X11_pricedBy_10 (by decide) (fun hc => ?_) (fun hc => ?_)
  · have h := gb_if hc h
    refine gb_iload_n d_X11_pricedBy_38 rfl ?_
    cases h
    exact gb_iret d_X11_pricedBy_39 rfl ⟨rfl, rfl, rfl⟩
  · have h := gb_it hc h
    refine gb_aload_n d_X11_pricedBy_13 rfl ?_
    refine gb_getr (r := 79) f_X11_13 (hS 77 _ rfl) rfl d_X11_pricedBy_14 ?_
    refine gb_bipush 56 d_X11_pricedBy_17 rfl ?_
    refine gb_iload_n d_X11_pricedBy_19 rfl ?_
    refine gb_iadd d_X11_pricedBy_20 ?_
    obtain ⟨hi2, h⟩ := gb_ck_e h
    refine gb_iald_ ((56 + x1).toNatClampNeg) rfl (hS 79 _ rfl) hi2 d_X11_pricedBy_21 ?_
    refine gb_iconst (-1) d_X11_pricedBy_22 rfl ?_
    refine gb_icmp_eq 38 d_X11_pricedBy_23 (by decide) (fun hc => ?_) (fun hc => ?_)
    · have h := gb_it hc h
      refine gb_iload_n d_X11_pricedBy_38 rfl ?_
      cases h
      exact gb_iret d_X11_pricedBy_39 rfl ⟨rfl, rfl, rfl⟩
    · have h := gb_if hc h
      refine gb_aload_n d_X11_pricedBy_26 rfl ?_
      refine gb_getr (r := 79) f_X11_13 (hS 77 _ rfl) rfl d_X11_pricedBy_27 ?_
      refine gb_bipush 56 d_X11_pricedBy_30 rfl ?_
      refine gb_iload_n d_X11_pricedBy_32 rfl ?_
      refine gb_iadd d_X11_pricedBy_33 ?_
      obtain ⟨hi3, h⟩ := gb_ck_e h
      refine gb_iald_ ((56 + x1).toNatClampNeg) rfl (hS 79 _ rfl) hi3 d_X11_pricedBy_34 ?_
      refine gb_goto 39 d_X11_pricedBy_35 (by decide) ?_
      cases h
      exact gb_iret d_X11_pricedBy_39 rfl ⟨rfl, rfl, rfl⟩
-- X11_lackNow
noncomputable def f_X11_lackNow (sh : List gb_Sh) (g : gb_G) (x1 : Int32) : Option (gb_G × Int32) := gb_bd (f_X11_isGood sh g x1) (fun r1 => if r1.2 = 0 then (some (r1.1, (-2))) else (gb_ck (16 + x1) 5520 (if (r1.1.1 79 ((16 + x1).toNatClampNeg)) = 1 then (some (r1.1, (-3))) else (gb_bd (f_X11_remember sh r1.1 0) (fun r4 => gb_ck (16 + x1) 5520 (gb_let (gb_pi r4 79 ((16 + x1).toNatClampNeg) 1) (fun g7 => gb_bd (f_X11_lackingOnes sh g7) (fun r8 => some (r8.1, r8.2)))))))))
set_option maxRecDepth 100000 in
set_option maxHeartbeats 4000000 in
theorem t_X11_lackNow {Γ : gb_X} {sh : List gb_Sh} {x1 : Int32} {out : gb_G × Int32} (hS : gb_S sh) {g : gb_G} (h : f_X11_lackNow sh g x1 = some out) : gb_C Γ M_X11_lackNow 2 0 0 sh g [.ref 77, .int x1] (gb_Ri sh out) := by
  refine gb_C.of rfl (Nat.le_of_ble_eq_true rfl) ?_
  refine gb_pick (lv' := [(0, .ref 77), (1, .int x1)]) [0, 1] rfl ?_
  unfold f_X11_lackNow at h
  refine gb_aload_n d_X11_lackNow_0 rfl ?_
  refine gb_iload_n d_X11_lackNow_1 rfl ?_
  obtain ⟨r1, e2, h⟩ := gb_bd_e h
  refine gb_cVi (As := [.int x1]) (rest := []) m_X11_184 (t_X11_isGood (Γ := Γ) hS e2) (hS 77 _ rfl) rfl (Nat.le_of_ble_eq_true rfl) rfl rfl (Nat.le_of_ble_eq_true rfl) d_X11_lackNow_2 ?_
  refine gb_if_ne 11 d_X11_lackNow_5 (by decide) (fun hc => ?_) (fun hc => ?_)
  · have h := gb_if hc h
    refine gb_aload_n d_X11_lackNow_11 rfl ?_
    refine gb_getr (r := 79) f_X11_13 (hS 77 _ rfl) rfl d_X11_lackNow_12 ?_
    refine gb_bipush 16 d_X11_lackNow_15 rfl ?_
    refine gb_iload_n d_X11_lackNow_17 rfl ?_
    refine gb_iadd d_X11_lackNow_18 ?_
    obtain ⟨hi3, h⟩ := gb_ck_e h
    refine gb_iald_ ((16 + x1).toNatClampNeg) rfl (hS 79 _ rfl) hi3 d_X11_lackNow_19 ?_
    refine gb_iconst 1 d_X11_lackNow_20 rfl ?_
    refine gb_icmp_ne 27 d_X11_lackNow_21 (by decide) (fun hc => ?_) (fun hc => ?_)
    · have h := gb_if hc h
      refine gb_aload_n d_X11_lackNow_27 rfl ?_
      refine gb_iconst 0 d_X11_lackNow_28 rfl ?_
      obtain ⟨r4, e5, h⟩ := gb_bd_e h
      refine gb_cVv (As := [.int 0]) (rest := []) m_X11_407 (t_X11_remember (Γ := Γ) hS e5) (hS 77 _ rfl) rfl (Nat.le_of_ble_eq_true rfl) rfl rfl (Nat.le_of_ble_eq_true rfl) d_X11_lackNow_29 ?_
      refine gb_aload_n d_X11_lackNow_32 rfl ?_
      refine gb_getr (r := 79) f_X11_13 (hS 77 _ rfl) rfl d_X11_lackNow_33 ?_
      refine gb_bipush 16 d_X11_lackNow_36 rfl ?_
      refine gb_iload_n d_X11_lackNow_38 rfl ?_
      refine gb_iadd d_X11_lackNow_39 ?_
      refine gb_iconst 1 d_X11_lackNow_40 rfl ?_
      obtain ⟨hi6, h⟩ := gb_ck_e h
      refine gb_iast_ ((16 + x1).toNatClampNeg) rfl (hS 79 _ rfl) hi6 d_X11_lackNow_41 ?_
      have h := gb_let_e h
      generalize gb_pi r4 79 ((16 + x1).toNatClampNeg) 1 = g7 at h ⊢
      refine gb_aload_n d_X11_lackNow_42 rfl ?_
      obtain ⟨r8, e9, h⟩ := gb_bd_e h
      refine gb_cVi (As := []) (rest := []) m_X11_410 (t_X11_lackingOnes (Γ := Γ) hS e9) (hS 77 _ rfl) rfl (Nat.le_of_ble_eq_true rfl) rfl rfl (Nat.le_of_ble_eq_true rfl) d_X11_lackNow_43 ?_
      cases h
      exact gb_iret d_X11_lackNow_46 rfl ⟨rfl, rfl, rfl⟩
    · have h := gb_it hc h
      refine gb_bipush (-3) d_X11_lackNow_24 rfl ?_
      cases h
      exact gb_iret d_X11_lackNow_26 rfl ⟨rfl, rfl, rfl⟩
  · have h := gb_it hc h
    refine gb_bipush (-2) d_X11_lackNow_8 rfl ?_
    cases h
    exact gb_iret d_X11_lackNow_10 rfl ⟨rfl, rfl, rfl⟩
-- X11_lack
noncomputable def f_X11_lack (sh : List gb_Sh) (g : gb_G) (x1 : Int32) : Option (gb_G × Int32) := gb_let (gb_pi g 77 0 0) (fun g1 => gb_bd (f_X11_lackNow sh g1 x1) (fun r2 => gb_bd (f_X11_tell sh r2.1 r2.2) (fun r4 => some (r4.1, r4.2))))
set_option maxRecDepth 100000 in
set_option maxHeartbeats 4000000 in
theorem t_X11_lack {Γ : gb_X} {sh : List gb_Sh} {x1 : Int32} {out : gb_G × Int32} (hS : gb_S sh) {g : gb_G} (h : f_X11_lack sh g x1 = some out) : gb_C Γ M_X11_lack 3 0 0 sh g [.ref 77, .int x1] (gb_Ri sh out) := by
  refine gb_C.of rfl (Nat.le_of_ble_eq_true rfl) ?_
  refine gb_pick (lv' := [(0, .ref 77), (1, .int x1)]) [0, 1] rfl ?_
  unfold f_X11_lack at h
  refine gb_aload_n d_X11_lack_0 rfl ?_
  refine gb_iconst 0 d_X11_lack_1 rfl ?_
  refine gb_puti f_X11_145 (fun h => nomatch h) (hS 77 _ rfl) rfl rfl rfl d_X11_lack_2 ?_
  have h := gb_let_e h
  generalize gb_pi g 77 0 0 = g1 at h ⊢
  refine gb_aload_n d_X11_lack_5 rfl ?_
  refine gb_aload_n d_X11_lack_6 rfl ?_
  refine gb_iload_n d_X11_lack_7 rfl ?_
  obtain ⟨r2, e3, h⟩ := gb_bd_e h
  refine gb_cVi (As := [.int x1]) (rest := [.ref 77]) m_X11_413 (t_X11_lackNow (Γ := Γ) hS e3) (hS 77 _ rfl) rfl (Nat.le_of_ble_eq_true rfl) rfl rfl (Nat.le_of_ble_eq_true rfl) d_X11_lack_8 ?_
  obtain ⟨r4, e5, h⟩ := gb_bd_e h
  refine gb_cVi (As := [.int r2.2]) (rest := []) m_X11_154 (t_X11_tell (Γ := Γ) hS e5) (hS 77 _ rfl) rfl (Nat.le_of_ble_eq_true rfl) rfl rfl (Nat.le_of_ble_eq_true rfl) d_X11_lack_11 ?_
  cases h
  exact gb_iret d_X11_lack_14 rfl ⟨rfl, rfl, rfl⟩
