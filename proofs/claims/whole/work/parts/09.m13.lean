-- X11_trend
noncomputable def f_X11_trend_29 (sh : List gb_Sh) (g : gb_G)  : Option (gb_G × Int32) := some (g, (-100000))
noncomputable def f_X11_trend_179 (sh : List gb_Sh) (g : gb_G) (z0 : Int64) : Option (gb_G × Int32) := some (g, z0.toInt32)
noncomputable def f_X11_trend_162 (sh : List gb_Sh) (g : gb_G) (y1 : Int32) : Option (gb_G × Int32) := if (gb_rem y1 2) = 0 then (f_X11_trend_179 sh g (g.2.1 77 41)) else (f_X11_trend_179 sh g (g.2.1 77 42))
noncomputable def f_X11_trend_46 (sh : List gb_Sh) : Nat → gb_G → Int32 → Int32 → Int64 → Int64 → Int64 → Int64 → Int32 → Option (gb_G × Int32)
  | 0, _, _, _, _, _, _, _, _ => none
  | n + 1, g, y1, y2, y3, y5, y7, y9, y11 => if y2 ≤ y11 then (if 2 ≤ y1 then (gb_bd (f_X11_lowest sh g ((y5 * y7) - (y3 * y9)) ((y2.toInt64 * y7) - (y3 * y3))) (fun r4 => f_X11_trend_162 sh r4 y1)) else (gb_bd (f_X11_lowest sh g ((y2.toInt64 * y9) - (y3 * y5)) ((y2.toInt64 * y7) - (y3 * y3))) (fun r6 => f_X11_trend_162 sh r6 y1))) else (gb_ck (104 + y11) 5520 (gb_ck (104 + y11) 5520 (f_X11_trend_46 sh n g y1 y2 (y3 + y11.toInt64) (y5 + ((g.1 79 ((104 + y11).toNatClampNeg)).toInt64)) (y7 + ((y11 * y11).toInt64)) (y9 + (y11.toInt64 * ((g.1 79 ((104 + y11).toNatClampNeg)).toInt64))) (y11 + 1))))
noncomputable def f_X11_trend (sh : List gb_Sh) (g : gb_G) (x1 : Int32) : Option (gb_G × Int32) := gb_let (gb_pi g 77 0 0) (fun g1 => if (g1.1 79 2) < 2 then (f_X11_trend_29 sh g1 ) else (gb_bd (f_X11_in sh g1 x1.toInt64 0 3) (fun r2 => if r2.2 = 0 then (f_X11_trend_29 sh r2.1 ) else (f_X11_trend_46 sh gb_N r2.1 x1 (g1.1 79 2) 0 0 0 0 0))))
set_option maxRecDepth 100000 in
set_option maxHeartbeats 4000000 in
theorem t_X11_trend_29 {Γ : gb_X} {sh : List gb_Sh} {out : gb_G × Int32} (hS : gb_S sh) : ∀ (g : gb_G) , f_X11_trend_29 sh g  = some out → gb_J Γ M_X11_trend 2 (gb_Ri sh out) 0 0 sh g 29 [] [] := by
  intro g  h
  unfold f_X11_trend_29 at h
  refine gb_ldc (-100000) k_X11_188 d_X11_trend_29 ?_
  cases h
  exact gb_iret d_X11_trend_31 rfl ⟨rfl, rfl, rfl⟩
set_option maxRecDepth 100000 in
set_option maxHeartbeats 4000000 in
theorem t_X11_trend_179 {Γ : gb_X} {sh : List gb_Sh} {out : gb_G × Int32} (hS : gb_S sh) : ∀ (g : gb_G) (z0 : Int64), f_X11_trend_179 sh g z0 = some out → gb_J Γ M_X11_trend 2 (gb_Ri sh out) 0 0 sh g 179 [] [.long z0] := by
  intro g z0 h
  unfold f_X11_trend_179 at h
  refine gb_l2i d_X11_trend_179 ?_
  cases h
  exact gb_iret d_X11_trend_180 rfl ⟨rfl, rfl, rfl⟩
set_option maxRecDepth 100000 in
set_option maxHeartbeats 4000000 in
theorem t_X11_trend_162 {Γ : gb_X} {sh : List gb_Sh} {out : gb_G × Int32} (hS : gb_S sh) : ∀ (g : gb_G) (y1 : Int32), f_X11_trend_162 sh g y1 = some out → gb_J Γ M_X11_trend 2 (gb_Ri sh out) 0 0 sh g 162 [(0, .ref 77), (1, .int y1)] [] := by
  intro g y1 h
  unfold f_X11_trend_162 at h
  refine gb_iload_n d_X11_trend_162 rfl ?_
  refine gb_iconst 2 d_X11_trend_163 rfl ?_
  refine gb_rem_ d_X11_trend_164 (by decide) ?_
  refine gb_if_ne 175 d_X11_trend_165 (by decide) (fun hc => ?_) (fun hc => ?_)
  · have h := gb_if hc h
    refine gb_aload_n d_X11_trend_175 rfl ?_
    refine gb_getl f_X11_435 (hS 77 _ rfl) rfl d_X11_trend_176 ?_
    refine gb_pick (lv' := []) [] rfl ?_
    exact t_X11_trend_179 hS  _ (g.2.1 77 42) h
  · have h := gb_it hc h
    refine gb_aload_n d_X11_trend_168 rfl ?_
    refine gb_getl f_X11_432 (hS 77 _ rfl) rfl d_X11_trend_169 ?_
    refine gb_goto 179 d_X11_trend_172 (by decide) ?_
    refine gb_pick (lv' := []) [] rfl ?_
    exact t_X11_trend_179 hS  _ (g.2.1 77 41) h
set_option maxRecDepth 100000 in
set_option maxHeartbeats 4000000 in
theorem t_X11_trend_46 {Γ : gb_X} {sh : List gb_Sh} {out : gb_G × Int32} (hS : gb_S sh) : ∀ (n : Nat) (g : gb_G) (y1 : Int32) (y2 : Int32) (y3 : Int64) (y5 : Int64) (y7 : Int64) (y9 : Int64) (y11 : Int32), f_X11_trend_46 sh n g y1 y2 y3 y5 y7 y9 y11 = some out → gb_J Γ M_X11_trend 2 (gb_Ri sh out) 0 0 sh g 46 [(0, .ref 77), (1, .int y1), (2, .int y2), (3, .long y3), (5, .long y5), (7, .long y7), (9, .long y9), (11, .int y11)] [] := by
  intro n
  induction n with
  | zero => intro g y1 y2 y3 y5 y7 y9 y11 h; cases h
  | succ n ih =>
    intro g y1 y2 y3 y5 y7 y9 y11 h
    rw [f_X11_trend_46] at h
    refine gb_iload d_X11_trend_46 rfl ?_
    refine gb_iload_n d_X11_trend_48 rfl ?_
    refine gb_icmp_ge 111 d_X11_trend_49 (by decide) (fun hc => ?_) (fun hc => ?_)
    · have h := gb_it hc h
      refine gb_iload_n d_X11_trend_111 rfl ?_
      refine gb_i2l d_X11_trend_112 ?_
      refine gb_lload d_X11_trend_113 rfl ?_
      refine gb_lmul d_X11_trend_115 ?_
      refine gb_lload_n d_X11_trend_116 rfl ?_
      refine gb_lload_n d_X11_trend_117 rfl ?_
      refine gb_lmul d_X11_trend_118 ?_
      refine gb_lsub d_X11_trend_119 ?_
      refine gb_lstore [(11, .long ((y2.toInt64 * y7) - (y3 * y3))), (0, .ref 77), (1, .int y1), (2, .int y2), (3, .long y3), (5, .long y5), (7, .long y7), (9, .long y9)] d_X11_trend_120 (Nat.le_of_ble_eq_true rfl) rfl ?_
      refine gb_iload_n d_X11_trend_122 rfl ?_
      refine gb_iconst 2 d_X11_trend_123 rfl ?_
      refine gb_icmp_ge 146 d_X11_trend_124 (by decide) (fun hc => ?_) (fun hc => ?_)
      · have h := gb_it hc h
        refine gb_aload_n d_X11_trend_146 rfl ?_
        refine gb_lload d_X11_trend_147 rfl ?_
        refine gb_lload d_X11_trend_149 rfl ?_
        refine gb_lmul d_X11_trend_151 ?_
        refine gb_lload_n d_X11_trend_152 rfl ?_
        refine gb_lload d_X11_trend_153 rfl ?_
        refine gb_lmul d_X11_trend_155 ?_
        refine gb_lsub d_X11_trend_156 ?_
        refine gb_lload d_X11_trend_157 rfl ?_
        obtain ⟨r4, e5, h⟩ := gb_bd_e h
        refine gb_cVv (As := [.long ((y5 * y7) - (y3 * y9)), .long ((y2.toInt64 * y7) - (y3 * y3))]) (rest := []) m_X11_443 (t_X11_lowest (Γ := Γ) hS e5) (hS 77 _ rfl) rfl (Nat.le_of_ble_eq_true rfl) rfl rfl (Nat.le_of_ble_eq_true rfl) d_X11_trend_159 ?_
        refine gb_pick (lv' := [(0, .ref 77), (1, .int y1)]) [1, 2] rfl ?_
        exact t_X11_trend_162 hS  _ y1 h
      · have h := gb_if hc h
        refine gb_aload_n d_X11_trend_127 rfl ?_
        refine gb_iload_n d_X11_trend_128 rfl ?_
        refine gb_i2l d_X11_trend_129 ?_
        refine gb_lload d_X11_trend_130 rfl ?_
        refine gb_lmul d_X11_trend_132 ?_
        refine gb_lload_n d_X11_trend_133 rfl ?_
        refine gb_lload d_X11_trend_134 rfl ?_
        refine gb_lmul d_X11_trend_136 ?_
        refine gb_lsub d_X11_trend_137 ?_
        refine gb_lload d_X11_trend_138 rfl ?_
        obtain ⟨r6, e7, h⟩ := gb_bd_e h
        refine gb_cVv (As := [.long ((y2.toInt64 * y9) - (y3 * y5)), .long ((y2.toInt64 * y7) - (y3 * y3))]) (rest := []) m_X11_443 (t_X11_lowest (Γ := Γ) hS e7) (hS 77 _ rfl) rfl (Nat.le_of_ble_eq_true rfl) rfl rfl (Nat.le_of_ble_eq_true rfl) d_X11_trend_140 ?_
        refine gb_goto 162 d_X11_trend_143 (by decide) ?_
        refine gb_pick (lv' := [(0, .ref 77), (1, .int y1)]) [1, 2] rfl ?_
        exact t_X11_trend_162 hS  _ y1 h
    · have h := gb_if hc h
      refine gb_lload_n d_X11_trend_52 rfl ?_
      refine gb_iload d_X11_trend_53 rfl ?_
      refine gb_i2l d_X11_trend_55 ?_
      refine gb_ladd d_X11_trend_56 ?_
      refine gb_lstore_n [(3, .long (y3 + y11.toInt64)), (0, .ref 77), (1, .int y1), (2, .int y2), (5, .long y5), (7, .long y7), (9, .long y9), (11, .int y11)] d_X11_trend_57 (Nat.le_of_ble_eq_true rfl) rfl ?_
      refine gb_lload d_X11_trend_58 rfl ?_
      refine gb_aload_n d_X11_trend_60 rfl ?_
      refine gb_getr (r := 79) f_X11_13 (hS 77 _ rfl) rfl d_X11_trend_61 ?_
      refine gb_bipush 104 d_X11_trend_64 rfl ?_
      refine gb_iload d_X11_trend_66 rfl ?_
      refine gb_iadd d_X11_trend_68 ?_
      obtain ⟨hi8, h⟩ := gb_ck_e h
      refine gb_iald_ ((104 + y11).toNatClampNeg) rfl (hS 79 _ rfl) hi8 d_X11_trend_69 ?_
      refine gb_i2l d_X11_trend_70 ?_
      refine gb_ladd d_X11_trend_71 ?_
      refine gb_lstore [(5, .long (y5 + ((g.1 79 ((104 + y11).toNatClampNeg)).toInt64))), (3, .long (y3 + y11.toInt64)), (0, .ref 77), (1, .int y1), (2, .int y2), (7, .long y7), (9, .long y9), (11, .int y11)] d_X11_trend_72 (Nat.le_of_ble_eq_true rfl) rfl ?_
      refine gb_lload d_X11_trend_74 rfl ?_
      refine gb_iload d_X11_trend_76 rfl ?_
      refine gb_iload d_X11_trend_78 rfl ?_
      refine gb_imul d_X11_trend_80 ?_
      refine gb_i2l d_X11_trend_81 ?_
      refine gb_ladd d_X11_trend_82 ?_
      refine gb_lstore [(7, .long (y7 + ((y11 * y11).toInt64))), (5, .long (y5 + ((g.1 79 ((104 + y11).toNatClampNeg)).toInt64))), (3, .long (y3 + y11.toInt64)), (0, .ref 77), (1, .int y1), (2, .int y2), (9, .long y9), (11, .int y11)] d_X11_trend_83 (Nat.le_of_ble_eq_true rfl) rfl ?_
      refine gb_lload d_X11_trend_85 rfl ?_
      refine gb_iload d_X11_trend_87 rfl ?_
      refine gb_i2l d_X11_trend_89 ?_
      refine gb_aload_n d_X11_trend_90 rfl ?_
      refine gb_getr (r := 79) f_X11_13 (hS 77 _ rfl) rfl d_X11_trend_91 ?_
      refine gb_bipush 104 d_X11_trend_94 rfl ?_
      refine gb_iload d_X11_trend_96 rfl ?_
      refine gb_iadd d_X11_trend_98 ?_
      obtain ⟨hi9, h⟩ := gb_ck_e h
      refine gb_iald_ ((104 + y11).toNatClampNeg) rfl (hS 79 _ rfl) hi9 d_X11_trend_99 ?_
      refine gb_i2l d_X11_trend_100 ?_
      refine gb_lmul d_X11_trend_101 ?_
      refine gb_ladd d_X11_trend_102 ?_
      refine gb_lstore [(9, .long (y9 + (y11.toInt64 * ((g.1 79 ((104 + y11).toNatClampNeg)).toInt64)))), (7, .long (y7 + ((y11 * y11).toInt64))), (5, .long (y5 + ((g.1 79 ((104 + y11).toNatClampNeg)).toInt64))), (3, .long (y3 + y11.toInt64)), (0, .ref 77), (1, .int y1), (2, .int y2), (11, .int y11)] d_X11_trend_103 (Nat.le_of_ble_eq_true rfl) rfl ?_
      refine gb_iinc (y11 + 1) [(11, .int (y11 + 1)), (9, .long (y9 + (y11.toInt64 * ((g.1 79 ((104 + y11).toNatClampNeg)).toInt64)))), (7, .long (y7 + ((y11 * y11).toInt64))), (5, .long (y5 + ((g.1 79 ((104 + y11).toNatClampNeg)).toInt64))), (3, .long (y3 + y11.toInt64)), (0, .ref 77), (1, .int y1), (2, .int y2)] d_X11_trend_105 (Nat.le_of_ble_eq_true rfl) rfl rfl rfl ?_
      refine gb_goto 46 d_X11_trend_108 (by decide) ?_
      refine gb_pick (lv' := [(0, .ref 77), (1, .int y1), (2, .int y2), (3, .long (y3 + y11.toInt64)), (5, .long (y5 + ((g.1 79 ((104 + y11).toNatClampNeg)).toInt64))), (7, .long (y7 + ((y11 * y11).toInt64))), (9, .long (y9 + (y11.toInt64 * ((g.1 79 ((104 + y11).toNatClampNeg)).toInt64)))), (11, .int (y11 + 1))]) [5, 6, 7, 4, 3, 2, 1, 0] rfl ?_
      exact ih _ y1 y2 (y3 + y11.toInt64) (y5 + ((g.1 79 ((104 + y11).toNatClampNeg)).toInt64)) (y7 + ((y11 * y11).toInt64)) (y9 + (y11.toInt64 * ((g.1 79 ((104 + y11).toNatClampNeg)).toInt64))) (y11 + 1) h
set_option maxRecDepth 100000 in
set_option maxHeartbeats 4000000 in
theorem t_X11_trend {Γ : gb_X} {sh : List gb_Sh} {x1 : Int32} {out : gb_G × Int32} (hS : gb_S sh) {g : gb_G} (h : f_X11_trend sh g x1 = some out) : gb_C Γ M_X11_trend 2 0 0 sh g [.ref 77, .int x1] (gb_Ri sh out) := by
  refine gb_C.of rfl (Nat.le_of_ble_eq_true rfl) ?_
  refine gb_pick (lv' := [(0, .ref 77), (1, .int x1)]) [0, 1] rfl ?_
  unfold f_X11_trend at h
  refine gb_aload_n d_X11_trend_0 rfl ?_
  refine gb_iconst 0 d_X11_trend_1 rfl ?_
  refine gb_puti f_X11_145 (fun h => nomatch h) (hS 77 _ rfl) rfl rfl rfl d_X11_trend_2 ?_
  have h := gb_let_e h
  generalize gb_pi g 77 0 0 = g1 at h ⊢
  refine gb_aload_n d_X11_trend_5 rfl ?_
  refine gb_getr (r := 79) f_X11_13 (hS 77 _ rfl) rfl d_X11_trend_6 ?_
  refine gb_iconst 2 d_X11_trend_9 rfl ?_
  refine gb_iald_ 2 rfl (hS 79 _ rfl) (by unfold vp_in; decide) d_X11_trend_10 ?_
  refine gb_istore_n [(2, .int (g1.1 79 2)), (0, .ref 77), (1, .int x1)] d_X11_trend_11 (Nat.le_of_ble_eq_true rfl) rfl ?_
  refine gb_iload_n d_X11_trend_12 rfl ?_
  refine gb_iconst 2 d_X11_trend_13 rfl ?_
  refine gb_icmp_lt 29 d_X11_trend_14 (by decide) (fun hc => ?_) (fun hc => ?_)
  · have h := gb_it hc h
    refine gb_pick (lv' := []) [] rfl ?_
    exact t_X11_trend_29 hS  _  h
  · have h := gb_if hc h
    refine gb_iload_n d_X11_trend_17 rfl ?_
    refine gb_i2l d_X11_trend_18 ?_
    refine gb_lconst 0 d_X11_trend_19 rfl ?_
    refine gb_ldc2 3 k_X11_447 d_X11_trend_20 ?_
    obtain ⟨r2, e3, h⟩ := gb_bd_e h
    refine gb_cSi (As := [.long x1.toInt64, .long 0, .long 3]) (rest := []) m_X11_165 (t_X11_in (Γ := Γ) hS e3) (Nat.le_of_ble_eq_true rfl) rfl rfl (Nat.le_of_ble_eq_true rfl) d_X11_trend_23 ?_
    refine gb_if_ne 32 d_X11_trend_26 (by decide) (fun hc => ?_) (fun hc => ?_)
    · have h := gb_if hc h
      refine gb_lconst 0 d_X11_trend_32 rfl ?_
      refine gb_lstore_n [(3, .long 0), (2, .int (g1.1 79 2)), (0, .ref 77), (1, .int x1)] d_X11_trend_33 (Nat.le_of_ble_eq_true rfl) rfl ?_
      refine gb_lconst 0 d_X11_trend_34 rfl ?_
      refine gb_lstore [(5, .long 0), (3, .long 0), (2, .int (g1.1 79 2)), (0, .ref 77), (1, .int x1)] d_X11_trend_35 (Nat.le_of_ble_eq_true rfl) rfl ?_
      refine gb_lconst 0 d_X11_trend_37 rfl ?_
      refine gb_lstore [(7, .long 0), (5, .long 0), (3, .long 0), (2, .int (g1.1 79 2)), (0, .ref 77), (1, .int x1)] d_X11_trend_38 (Nat.le_of_ble_eq_true rfl) rfl ?_
      refine gb_lconst 0 d_X11_trend_40 rfl ?_
      refine gb_lstore [(9, .long 0), (7, .long 0), (5, .long 0), (3, .long 0), (2, .int (g1.1 79 2)), (0, .ref 77), (1, .int x1)] d_X11_trend_41 (Nat.le_of_ble_eq_true rfl) rfl ?_
      refine gb_iconst 0 d_X11_trend_43 rfl ?_
      refine gb_istore [(11, .int 0), (9, .long 0), (7, .long 0), (5, .long 0), (3, .long 0), (2, .int (g1.1 79 2)), (0, .ref 77), (1, .int x1)] d_X11_trend_44 (Nat.le_of_ble_eq_true rfl) rfl ?_
      refine gb_pick (lv' := [(0, .ref 77), (1, .int x1), (2, .int (g1.1 79 2)), (3, .long 0), (5, .long 0), (7, .long 0), (9, .long 0), (11, .int 0)]) [6, 7, 5, 4, 3, 2, 1, 0] rfl ?_
      exact t_X11_trend_46 hS  gb_N _ x1 (g1.1 79 2) 0 0 0 0 0 h
    · have h := gb_it hc h
      refine gb_pick (lv' := []) [] rfl ?_
      exact t_X11_trend_29 hS  _  h
-- X11_gets
noncomputable def f_X11_gets_25 (sh : List gb_Sh) (g : gb_G)  : Option (gb_G × Int64) := some (g, (-1))
noncomputable def f_X11_gets_90 (sh : List gb_Sh) (K80 : gb_G → Int32 → Int32 → Int32 → Option (gb_G × Int64)) : Nat → gb_G → Int32 → Int32 → Int32 → Int32 → Option (gb_G × Int64)
  | 0, _, _, _, _, _ => none
  | n + 1, g, y2, y3, y4, y5 => if y5 ≤ 0 then (K80 g y2 y3 (y4 + 1)) else (gb_ck y5 14 (gb_ck y5 14 (gb_let (gb_pj g 101 y5.toNatClampNeg (((g.2.1 101 y5.toNatClampNeg) * ((10 - y3).toInt64)) / 10)) (fun g8 => gb_ck (y5 + 1) 14 (gb_ck (y5 + 1) 14 (gb_let (gb_pj g8 101 ((y5 + 1).toNatClampNeg) ((g8.2.1 101 ((y5 + 1).toNatClampNeg)) + (((g.2.1 101 y5.toNatClampNeg) * y3.toInt64) / 10))) (fun g11 => f_X11_gets_90 sh K80 n g11 y2 y3 y4 (y5 + (-1)))))))))
noncomputable def f_X11_gets_80 (sh : List gb_Sh) : Nat → gb_G → Int32 → Int32 → Int32 → Option (gb_G × Int64)
  | 0, _, _, _, _ => none
  | n + 1, g, y2, y3, y4 => if y2 ≤ y4 then (some (g, (g.2.1 101 12))) else (f_X11_gets_90 sh (fun w w0 w1 w2 => f_X11_gets_80 sh n w w0 w1 w2) gb_N g y2 y3 y4 11)
noncomputable def f_X11_gets_62 (sh : List gb_Sh) (K31 : gb_G → Int32 → Int32 → Int32 → Option (gb_G × Int64)) (g : gb_G) (y1 : Int32) (y2 : Int32) (y3 : Int32) (z0 : Int64) (z1 : Int32) : Option (gb_G × Int64) := gb_ck z1 14 (gb_let (gb_pj g 101 z1.toNatClampNeg z0) (fun g14 => K31 g14 y1 y2 (y3 + 1)))
noncomputable def f_X11_gets_31 (sh : List gb_Sh) : Nat → gb_G → Int32 → Int32 → Int32 → Option (gb_G × Int64)
  | 0, _, _, _, _ => none
  | n + 1, g, y1, y2, y3 => if 14 ≤ y3 then (f_X11_gets_80 sh gb_N g y2 (g.1 79 6) 0) else (gb_ck (8 + y1) 5520 (if y3 = (g.1 79 ((8 + y1).toNatClampNeg)) then (f_X11_gets_62 sh (fun w w0 w1 w2 => f_X11_gets_31 sh n w w0 w1 w2) g y1 y2 y3 1000000000000 y3) else (f_X11_gets_62 sh (fun w w0 w1 w2 => f_X11_gets_31 sh n w w0 w1 w2) g y1 y2 y3 0 y3)))
noncomputable def f_X11_gets (sh : List gb_Sh) (g : gb_G) (x1 : Int32) (x2 : Int32) : Option (gb_G × Int64) := gb_let (gb_pi g 77 0 0) (fun g1 => gb_bd (f_X11_isGood sh g1 x1) (fun r2 => if r2.2 = 0 then (f_X11_gets_25 sh r2.1 ) else (gb_bd (f_X11_in sh r2.1 x2.toInt64 0 60) (fun r4 => if r4.2 = 0 then (f_X11_gets_25 sh r4.1 ) else (f_X11_gets_31 sh gb_N r4.1 x1 x2 0)))))
set_option maxRecDepth 100000 in
set_option maxHeartbeats 4000000 in
theorem t_X11_gets_25 {Γ : gb_X} {sh : List gb_Sh} {out : gb_G × Int64} (hS : gb_S sh) : ∀ (g : gb_G) , f_X11_gets_25 sh g  = some out → gb_J Γ M_X11_gets 2 (gb_Rl sh out) 0 0 sh g 25 [] [] := by
  intro g  h
  unfold f_X11_gets_25 at h
  refine gb_ldc2 (-1) k_X11_251 d_X11_gets_25 ?_
  cases h
  exact gb_lret d_X11_gets_28 rfl ⟨rfl, rfl, rfl⟩
set_option maxRecDepth 100000 in
set_option maxHeartbeats 4000000 in
theorem t_X11_gets_90 {Γ : gb_X} {sh : List gb_Sh} {out : gb_G × Int64} (hS : gb_S sh) {K80 : gb_G → Int32 → Int32 → Int32 → Option (gb_G × Int64)} (hK80 : ∀ (g : gb_G) (y2 : Int32) (y3 : Int32) (y4 : Int32), K80 g y2 y3 y4 = some out → gb_J Γ M_X11_gets 2 (gb_Rl sh out) 0 0 sh g 80 [(0, .ref 77), (2, .int y2), (3, .int y3), (4, .int y4)] []) : ∀ (n : Nat) (g : gb_G) (y2 : Int32) (y3 : Int32) (y4 : Int32) (y5 : Int32), f_X11_gets_90 sh K80 n g y2 y3 y4 y5 = some out → gb_J Γ M_X11_gets 2 (gb_Rl sh out) 0 0 sh g 90 [(0, .ref 77), (2, .int y2), (3, .int y3), (4, .int y4), (5, .int y5)] [] := by
  intro n
  induction n with
  | zero => intro g y2 y3 y4 y5 h; cases h
  | succ n ih =>
    intro g y2 y3 y4 y5 h
    rw [f_X11_gets_90] at h
    refine gb_iload d_X11_gets_90 rfl ?_
    refine gb_if_le 150 d_X11_gets_92 (by decide) (fun hc => ?_) (fun hc => ?_)
    · have h := gb_it hc h
      refine gb_iinc (y4 + 1) [(4, .int (y4 + 1)), (0, .ref 77), (2, .int y2), (3, .int y3), (5, .int y5)] d_X11_gets_150 (Nat.le_of_ble_eq_true rfl) rfl rfl rfl ?_
      refine gb_goto 80 d_X11_gets_153 (by decide) ?_
      refine gb_pick (lv' := [(0, .ref 77), (2, .int y2), (3, .int y3), (4, .int (y4 + 1))]) [1, 2, 3, 0] rfl ?_
      exact hK80 _ y2 y3 (y4 + 1) h
    · have h := gb_if hc h
      refine gb_aload_n d_X11_gets_95 rfl ?_
      refine gb_getr (r := 101) f_X11_119 (hS 77 _ rfl) rfl d_X11_gets_96 ?_
      refine gb_iload d_X11_gets_99 rfl ?_
      obtain ⟨hi6, h⟩ := gb_ck_e h
      refine gb_lald_ y5.toNatClampNeg rfl (hS 101 _ rfl) hi6 d_X11_gets_101 ?_
      refine gb_lstore [(6, .long (g.2.1 101 y5.toNatClampNeg)), (0, .ref 77), (2, .int y2), (3, .int y3), (4, .int y4), (5, .int y5)] d_X11_gets_102 (Nat.le_of_ble_eq_true rfl) rfl ?_
      refine gb_aload_n d_X11_gets_104 rfl ?_
      refine gb_getr (r := 101) f_X11_119 (hS 77 _ rfl) rfl d_X11_gets_105 ?_
      refine gb_iload d_X11_gets_108 rfl ?_
      refine gb_lload d_X11_gets_110 rfl ?_
      refine gb_bipush 10 d_X11_gets_112 rfl ?_
      refine gb_iload_n d_X11_gets_114 rfl ?_
      refine gb_isub d_X11_gets_115 ?_
      refine gb_i2l d_X11_gets_116 ?_
      refine gb_lmul d_X11_gets_117 ?_
      refine gb_ldc2 10 k_X11_210 d_X11_gets_118 ?_
      refine gb_ldiv d_X11_gets_121 (by decide) ?_
      obtain ⟨hi7, h⟩ := gb_ck_e h
      refine gb_last_ y5.toNatClampNeg rfl (hS 101 _ rfl) hi7 d_X11_gets_122 ?_
      have h := gb_let_e h
      generalize gb_pj g 101 y5.toNatClampNeg (((g.2.1 101 y5.toNatClampNeg) * ((10 - y3).toInt64)) / 10) = g8 at h ⊢
      refine gb_aload_n d_X11_gets_123 rfl ?_
      refine gb_getr (r := 101) f_X11_119 (hS 77 _ rfl) rfl d_X11_gets_124 ?_
      refine gb_iload d_X11_gets_127 rfl ?_
      refine gb_iconst 1 d_X11_gets_129 rfl ?_
      refine gb_iadd d_X11_gets_130 ?_
      refine gb_dup2 d_X11_gets_131 rfl rfl ?_
      obtain ⟨hi9, h⟩ := gb_ck_e h
      refine gb_lald_ ((y5 + 1).toNatClampNeg) rfl (hS 101 _ rfl) hi9 d_X11_gets_132 ?_
      refine gb_lload d_X11_gets_133 rfl ?_
      refine gb_iload_n d_X11_gets_135 rfl ?_
      refine gb_i2l d_X11_gets_136 ?_
      refine gb_lmul d_X11_gets_137 ?_
      refine gb_ldc2 10 k_X11_210 d_X11_gets_138 ?_
      refine gb_ldiv d_X11_gets_141 (by decide) ?_
      refine gb_ladd d_X11_gets_142 ?_
      obtain ⟨hi10, h⟩ := gb_ck_e h
      refine gb_last_ ((y5 + 1).toNatClampNeg) rfl (hS 101 _ rfl) hi10 d_X11_gets_143 ?_
      have h := gb_let_e h
      generalize gb_pj g8 101 ((y5 + 1).toNatClampNeg) ((g8.2.1 101 ((y5 + 1).toNatClampNeg)) + (((g.2.1 101 y5.toNatClampNeg) * y3.toInt64) / 10)) = g11 at h ⊢
      refine gb_iinc (y5 + (-1)) [(5, .int (y5 + (-1))), (6, .long (g.2.1 101 y5.toNatClampNeg)), (0, .ref 77), (2, .int y2), (3, .int y3), (4, .int y4)] d_X11_gets_144 (Nat.le_of_ble_eq_true rfl) rfl rfl rfl ?_
      refine gb_goto 90 d_X11_gets_147 (by decide) ?_
      refine gb_pick (lv' := [(0, .ref 77), (2, .int y2), (3, .int y3), (4, .int y4), (5, .int (y5 + (-1)))]) [2, 3, 4, 5, 0] rfl ?_
      exact ih _ y2 y3 y4 (y5 + (-1)) h
set_option maxRecDepth 100000 in
set_option maxHeartbeats 4000000 in
theorem t_X11_gets_80 {Γ : gb_X} {sh : List gb_Sh} {out : gb_G × Int64} (hS : gb_S sh) : ∀ (n : Nat) (g : gb_G) (y2 : Int32) (y3 : Int32) (y4 : Int32), f_X11_gets_80 sh n g y2 y3 y4 = some out → gb_J Γ M_X11_gets 2 (gb_Rl sh out) 0 0 sh g 80 [(0, .ref 77), (2, .int y2), (3, .int y3), (4, .int y4)] [] := by
  intro n
  induction n with
  | zero => intro g y2 y3 y4 h; cases h
  | succ n ih =>
    intro g y2 y3 y4 h
    rw [f_X11_gets_80] at h
    refine gb_iload d_X11_gets_80 rfl ?_
    refine gb_iload_n d_X11_gets_82 rfl ?_
    refine gb_icmp_ge 156 d_X11_gets_83 (by decide) (fun hc => ?_) (fun hc => ?_)
    · have h := gb_it hc h
      refine gb_aload_n d_X11_gets_156 rfl ?_
      refine gb_getr (r := 101) f_X11_119 (hS 77 _ rfl) rfl d_X11_gets_157 ?_
      refine gb_bipush 12 d_X11_gets_160 rfl ?_
      refine gb_lald_ 12 rfl (hS 101 _ rfl) (by unfold vp_in; decide) d_X11_gets_162 ?_
      cases h
      exact gb_lret d_X11_gets_163 rfl ⟨rfl, rfl, rfl⟩
    · have h := gb_if hc h
      refine gb_bipush 11 d_X11_gets_86 rfl ?_
      refine gb_istore [(5, .int 11), (0, .ref 77), (2, .int y2), (3, .int y3), (4, .int y4)] d_X11_gets_88 (Nat.le_of_ble_eq_true rfl) rfl ?_
      refine gb_pick (lv' := [(0, .ref 77), (2, .int y2), (3, .int y3), (4, .int y4), (5, .int 11)]) [1, 2, 3, 4, 0] rfl ?_
      exact t_X11_gets_90 hS (fun w w0 w1 w2 hw => ih w w0 w1 w2 hw) gb_N _ y2 y3 y4 11 h
set_option maxRecDepth 100000 in
set_option maxHeartbeats 4000000 in
theorem t_X11_gets_62 {Γ : gb_X} {sh : List gb_Sh} {out : gb_G × Int64} (hS : gb_S sh) {K31 : gb_G → Int32 → Int32 → Int32 → Option (gb_G × Int64)} (hK31 : ∀ (g : gb_G) (y1 : Int32) (y2 : Int32) (y3 : Int32), K31 g y1 y2 y3 = some out → gb_J Γ M_X11_gets 2 (gb_Rl sh out) 0 0 sh g 31 [(0, .ref 77), (1, .int y1), (2, .int y2), (3, .int y3)] []) : ∀ (g : gb_G) (y1 : Int32) (y2 : Int32) (y3 : Int32) (z0 : Int64) (z1 : Int32), f_X11_gets_62 sh K31 g y1 y2 y3 z0 z1 = some out → gb_J Γ M_X11_gets 2 (gb_Rl sh out) 0 0 sh g 62 [(0, .ref 77), (1, .int y1), (2, .int y2), (3, .int y3)] [.long z0, .int z1, .ref 101] := by
  intro g y1 y2 y3 z0 z1 h
  unfold f_X11_gets_62 at h
  obtain ⟨hi13, h⟩ := gb_ck_e h
  refine gb_last_ z1.toNatClampNeg rfl (hS 101 _ rfl) hi13 d_X11_gets_62 ?_
  have h := gb_let_e h
  generalize gb_pj g 101 z1.toNatClampNeg z0 = g14 at h ⊢
  refine gb_iinc (y3 + 1) [(3, .int (y3 + 1)), (0, .ref 77), (1, .int y1), (2, .int y2)] d_X11_gets_63 (Nat.le_of_ble_eq_true rfl) rfl rfl rfl ?_
  refine gb_goto 31 d_X11_gets_66 (by decide) ?_
  refine gb_pick (lv' := [(0, .ref 77), (1, .int y1), (2, .int y2), (3, .int (y3 + 1))]) [1, 2, 3, 0] rfl ?_
  exact hK31 _ y1 y2 (y3 + 1) h
set_option maxRecDepth 100000 in
set_option maxHeartbeats 4000000 in
theorem t_X11_gets_31 {Γ : gb_X} {sh : List gb_Sh} {out : gb_G × Int64} (hS : gb_S sh) : ∀ (n : Nat) (g : gb_G) (y1 : Int32) (y2 : Int32) (y3 : Int32), f_X11_gets_31 sh n g y1 y2 y3 = some out → gb_J Γ M_X11_gets 2 (gb_Rl sh out) 0 0 sh g 31 [(0, .ref 77), (1, .int y1), (2, .int y2), (3, .int y3)] [] := by
  intro n
  induction n with
  | zero => intro g y1 y2 y3 h; cases h
  | succ n ih =>
    intro g y1 y2 y3 h
    rw [f_X11_gets_31] at h
    refine gb_iload_n d_X11_gets_31 rfl ?_
    refine gb_bipush 14 d_X11_gets_32 rfl ?_
    refine gb_icmp_ge 69 d_X11_gets_34 (by decide) (fun hc => ?_) (fun hc => ?_)
    · have h := gb_it hc h
      refine gb_aload_n d_X11_gets_69 rfl ?_
      refine gb_getr (r := 79) f_X11_13 (hS 77 _ rfl) rfl d_X11_gets_70 ?_
      refine gb_bipush 6 d_X11_gets_73 rfl ?_
      refine gb_iald_ 6 rfl (hS 79 _ rfl) (by unfold vp_in; decide) d_X11_gets_75 ?_
      refine gb_istore_n [(3, .int (g.1 79 6)), (0, .ref 77), (1, .int y1), (2, .int y2)] d_X11_gets_76 (Nat.le_of_ble_eq_true rfl) rfl ?_
      refine gb_iconst 0 d_X11_gets_77 rfl ?_
      refine gb_istore [(4, .int 0), (3, .int (g.1 79 6)), (0, .ref 77), (1, .int y1), (2, .int y2)] d_X11_gets_78 (Nat.le_of_ble_eq_true rfl) rfl ?_
      refine gb_pick (lv' := [(0, .ref 77), (2, .int y2), (3, .int (g.1 79 6)), (4, .int 0)]) [2, 4, 1, 0] rfl ?_
      exact t_X11_gets_80 hS  gb_N _ y2 (g.1 79 6) 0 h
    · have h := gb_if hc h
      refine gb_aload_n d_X11_gets_37 rfl ?_
      refine gb_getr (r := 101) f_X11_119 (hS 77 _ rfl) rfl d_X11_gets_38 ?_
      refine gb_iload_n d_X11_gets_41 rfl ?_
      refine gb_iload_n d_X11_gets_42 rfl ?_
      refine gb_aload_n d_X11_gets_43 rfl ?_
      refine gb_getr (r := 79) f_X11_13 (hS 77 _ rfl) rfl d_X11_gets_44 ?_
      refine gb_bipush 8 d_X11_gets_47 rfl ?_
      refine gb_iload_n d_X11_gets_49 rfl ?_
      refine gb_iadd d_X11_gets_50 ?_
      obtain ⟨hi12, h⟩ := gb_ck_e h
      refine gb_iald_ ((8 + y1).toNatClampNeg) rfl (hS 79 _ rfl) hi12 d_X11_gets_51 ?_
      refine gb_icmp_ne 61 d_X11_gets_52 (by decide) (fun hc => ?_) (fun hc => ?_)
      · have h := gb_if hc h
        refine gb_lconst 0 d_X11_gets_61 rfl ?_
        exact t_X11_gets_62 hS (fun w w0 w1 w2 hw => ih w w0 w1 w2 hw) _ y1 y2 y3 0 y3 h
      · have h := gb_it hc h
        refine gb_ldc2 1000000000000 k_X11_494 d_X11_gets_55 ?_
        refine gb_goto 62 d_X11_gets_58 (by decide) ?_
        exact t_X11_gets_62 hS (fun w w0 w1 w2 hw => ih w w0 w1 w2 hw) _ y1 y2 y3 1000000000000 y3 h
set_option maxRecDepth 100000 in
set_option maxHeartbeats 4000000 in
theorem t_X11_gets {Γ : gb_X} {sh : List gb_Sh} {x1 : Int32} {x2 : Int32} {out : gb_G × Int64} (hS : gb_S sh) {g : gb_G} (h : f_X11_gets sh g x1 x2 = some out) : gb_C Γ M_X11_gets 2 0 0 sh g [.ref 77, .int x1, .int x2] (gb_Rl sh out) := by
  refine gb_C.of rfl (Nat.le_of_ble_eq_true rfl) ?_
  refine gb_pick (lv' := [(0, .ref 77), (1, .int x1), (2, .int x2)]) [0, 1, 2] rfl ?_
  unfold f_X11_gets at h
  refine gb_aload_n d_X11_gets_0 rfl ?_
  refine gb_iconst 0 d_X11_gets_1 rfl ?_
  refine gb_puti f_X11_145 (fun h => nomatch h) (hS 77 _ rfl) rfl rfl rfl d_X11_gets_2 ?_
  have h := gb_let_e h
  generalize gb_pi g 77 0 0 = g1 at h ⊢
  refine gb_aload_n d_X11_gets_5 rfl ?_
  refine gb_iload_n d_X11_gets_6 rfl ?_
  obtain ⟨r2, e3, h⟩ := gb_bd_e h
  refine gb_cVi (As := [.int x1]) (rest := []) m_X11_184 (t_X11_isGood (Γ := Γ) hS e3) (hS 77 _ rfl) rfl (Nat.le_of_ble_eq_true rfl) rfl rfl (Nat.le_of_ble_eq_true rfl) d_X11_gets_7 ?_
  refine gb_if_eq 25 d_X11_gets_10 (by decide) (fun hc => ?_) (fun hc => ?_)
  · have h := gb_it hc h
    refine gb_pick (lv' := []) [] rfl ?_
    exact t_X11_gets_25 hS  _  h
  · have h := gb_if hc h
    refine gb_iload_n d_X11_gets_13 rfl ?_
    refine gb_i2l d_X11_gets_14 ?_
    refine gb_lconst 0 d_X11_gets_15 rfl ?_
    refine gb_ldc2 60 k_X11_492 d_X11_gets_16 ?_
    obtain ⟨r4, e5, h⟩ := gb_bd_e h
    refine gb_cSi (As := [.long x2.toInt64, .long 0, .long 60]) (rest := []) m_X11_165 (t_X11_in (Γ := Γ) hS e5) (Nat.le_of_ble_eq_true rfl) rfl rfl (Nat.le_of_ble_eq_true rfl) d_X11_gets_19 ?_
    refine gb_if_ne 29 d_X11_gets_22 (by decide) (fun hc => ?_) (fun hc => ?_)
    · have h := gb_if hc h
      refine gb_iconst 0 d_X11_gets_29 rfl ?_
      refine gb_istore_n [(3, .int 0), (0, .ref 77), (1, .int x1), (2, .int x2)] d_X11_gets_30 (Nat.le_of_ble_eq_true rfl) rfl ?_
      refine gb_pick (lv' := [(0, .ref 77), (1, .int x1), (2, .int x2), (3, .int 0)]) [1, 2, 3, 0] rfl ?_
      exact t_X11_gets_31 hS  gb_N _ x1 x2 0 h
    · have h := gb_it hc h
      refine gb_pick (lv' := []) [] rfl ?_
      exact t_X11_gets_25 hS  _  h
-- X11_readSum
noncomputable def f_X11_readSum_22 (sh : List gb_Sh) (g : gb_G) (y1 : Int32) : Option (gb_G) := gb_ck (y1 + 1) 96 (gb_let (gb_pi g 103 ((y1 + 1).toNatClampNeg) (g.1 77 23)) (fun g4 => some g4))
noncomputable def f_X11_readSum (sh : List gb_Sh) (g : gb_G) (x1 : Int32) : Option (gb_G) := gb_ck x1 96 (gb_let (gb_pi g 103 x1.toNatClampNeg (g.1 77 23)) (fun g2 => if (g2.1 77 19) = 0 then (gb_bd (f_X11_readExpression sh g2 0) (fun r5 => f_X11_readSum_22 sh r5 x1)) else (f_X11_readSum_22 sh g2 x1)))
set_option maxRecDepth 100000 in
set_option maxHeartbeats 4000000 in
theorem t_X11_readSum_22 {Γ : gb_X} {sh : List gb_Sh} {out : gb_G} (hS : gb_S sh) : ∀ (g : gb_G) (y1 : Int32), f_X11_readSum_22 sh g y1 = some out → gb_J Γ M_X11_readSum 7 (gb_Rv sh out) 0 0 sh g 22 [(0, .ref 77), (1, .int y1)] [] := by
  intro g y1 h
  unfold f_X11_readSum_22 at h
  refine gb_aload_n d_X11_readSum_22 rfl ?_
  refine gb_getr (r := 103) f_X11_133 (hS 77 _ rfl) rfl d_X11_readSum_23 ?_
  refine gb_iload_n d_X11_readSum_26 rfl ?_
  refine gb_iconst 1 d_X11_readSum_27 rfl ?_
  refine gb_iadd d_X11_readSum_28 ?_
  refine gb_aload_n d_X11_readSum_29 rfl ?_
  refine gb_geti f_X11_261 (hS 77 _ rfl) rfl d_X11_readSum_30 ?_
  obtain ⟨hi3, h⟩ := gb_ck_e h
  refine gb_iast_ ((y1 + 1).toNatClampNeg) rfl (hS 103 _ rfl) hi3 d_X11_readSum_33 ?_
  have h := gb_let_e h
  generalize gb_pi g 103 ((y1 + 1).toNatClampNeg) (g.1 77 23) = g4 at h ⊢
  cases h
  exact gb_vret d_X11_readSum_34 rfl ⟨rfl, rfl, rfl⟩
set_option maxRecDepth 100000 in
set_option maxHeartbeats 4000000 in
theorem t_X11_readSum {Γ : gb_X} {sh : List gb_Sh} {x1 : Int32} {out : gb_G} (hS : gb_S sh) {g : gb_G} (h : f_X11_readSum sh g x1 = some out) : gb_C Γ M_X11_readSum 7 0 0 sh g [.ref 77, .int x1] (gb_Rv sh out) := by
  refine gb_C.of rfl (Nat.le_of_ble_eq_true rfl) ?_
  refine gb_pick (lv' := [(0, .ref 77), (1, .int x1)]) [0, 1] rfl ?_
  unfold f_X11_readSum at h
  refine gb_aload_n d_X11_readSum_0 rfl ?_
  refine gb_getr (r := 103) f_X11_133 (hS 77 _ rfl) rfl d_X11_readSum_1 ?_
  refine gb_iload_n d_X11_readSum_4 rfl ?_
  refine gb_aload_n d_X11_readSum_5 rfl ?_
  refine gb_geti f_X11_261 (hS 77 _ rfl) rfl d_X11_readSum_6 ?_
  obtain ⟨hi1, h⟩ := gb_ck_e h
  refine gb_iast_ x1.toNatClampNeg rfl (hS 103 _ rfl) hi1 d_X11_readSum_9 ?_
  have h := gb_let_e h
  generalize gb_pi g 103 x1.toNatClampNeg (g.1 77 23) = g2 at h ⊢
  refine gb_aload_n d_X11_readSum_10 rfl ?_
  refine gb_geti f_X11_224 (hS 77 _ rfl) rfl d_X11_readSum_11 ?_
  refine gb_if_ne 22 d_X11_readSum_14 (by decide) (fun hc => ?_) (fun hc => ?_)
  · have h := gb_if hc h
    exact t_X11_readSum_22 hS  _ x1 h
  · have h := gb_it hc h
    refine gb_aload_n d_X11_readSum_17 rfl ?_
    refine gb_iconst 0 d_X11_readSum_18 rfl ?_
    obtain ⟨r5, e6, h⟩ := gb_bd_e h
    refine gb_cVv (As := [.int 0]) (rest := []) m_X11_356 (t_X11_readExpression (Γ := Γ) hS e6) (hS 77 _ rfl) rfl (Nat.le_of_ble_eq_true rfl) rfl rfl (Nat.le_of_ble_eq_true rfl) d_X11_readSum_19 ?_
    exact t_X11_readSum_22 hS  _ x1 h
-- X11_readOrder
noncomputable def f_X11_readOrder_241 (sh : List gb_Sh) (g : gb_G) (y2 : Int32) : Option (gb_G) := gb_ck (y2 + 6) 96 (gb_let (gb_pi g 103 ((y2 + 6).toNatClampNeg) (g.1 77 23)) (fun g11 => some g11))
noncomputable def f_X11_readOrder_203 (sh : List gb_Sh) (g : gb_G) (y2 : Int32) : Option (gb_G) := gb_ck (y2 + 5) 96 (gb_let (gb_pi g 103 ((y2 + 5).toNatClampNeg) (g.1 77 23)) (fun g9 => if (g9.1 77 19) = 0 then (gb_bd (f_X11_isWord sh g9 294) (fun r12 => if r12.2 = 0 then (f_X11_readOrder_241 sh r12.1 y2) else (gb_bd (f_X11_next sh r12.1) (fun r14 => gb_bd (f_X11_readExpression sh r14 1) (fun r16 => f_X11_readOrder_241 sh r16 y2))))) else (f_X11_readOrder_241 sh g9 y2)))
noncomputable def f_X11_readOrder_155 (sh : List gb_Sh) (g : gb_G) (y2 : Int32) : Option (gb_G) := gb_ck (y2 + 7) 96 (gb_let (gb_pi g 103 ((y2 + 7).toNatClampNeg) 1) (fun g7 => if (g7.1 77 19) = 0 then (gb_bd (f_X11_isWord sh g7 21279923) (fun r18 => if r18.2 = 0 then (f_X11_readOrder_203 sh r18.1 y2) else (gb_bd (f_X11_next sh r18.1) (fun r20 => gb_bd (f_X11_number sh r20 1 20) (fun r22 => gb_ck (y2 + 7) 96 (gb_let (gb_pi r22.1 103 ((y2 + 7).toNatClampNeg) r22.2) (fun g25 => f_X11_readOrder_203 sh g25 y2))))))) else (f_X11_readOrder_203 sh g7 y2)))
noncomputable def f_X11_readOrder_148 (sh : List gb_Sh) (K155 : gb_G → Int32 → Option (gb_G)) (g : gb_G) (y2 : Int32) : Option (gb_G) := gb_bd (f_X11_readSum sh g (y2 + 3)) (fun r26 => K155 r26 y2)
noncomputable def f_X11_readOrder_125 (sh : List gb_Sh) (g : gb_G) (y1 : Int32) (y2 : Int32) : Option (gb_G) := if y1 = 2 then (if (g.1 77 19) = 0 then (gb_bd (f_X11_isWord sh g 89) (fun r28 => gb_bd (f_X11_must sh r28.1 r28.2) (fun r30 => f_X11_readOrder_148 sh (fun w w0 => f_X11_readOrder_155 sh w w0) r30 y2))) else (f_X11_readOrder_148 sh (fun w w0 => f_X11_readOrder_155 sh w w0) g y2)) else (f_X11_readOrder_155 sh g y2)
noncomputable def f_X11_readOrder_85 (sh : List gb_Sh) : Nat → gb_G → Int32 → Int32 → Int32 → Option (gb_G)
  | 0, _, _, _, _ => none
  | n + 1, g, y1, y2, y3 => if 8 ≤ y3 then (gb_ck y2 96 (gb_let (gb_pi g 103 y2.toNatClampNeg y1) (fun g5 => if y1 = 3 then (f_X11_readOrder_125 sh g5 y1 y2) else (gb_bd (f_X11_readSum sh g5 (y2 + 1)) (fun r32 => f_X11_readOrder_125 sh r32 y1 y2))))) else (gb_ck (y2 + y3) 96 (gb_let (gb_pi g 103 ((y2 + y3).toNatClampNeg) 0) (fun g35 => f_X11_readOrder_85 sh n g35 y1 y2 (y3 + 1))))
noncomputable def f_X11_readOrder_54 (sh : List gb_Sh) (g : gb_G) (y1 : Int32) (z0 : Int32) : Option (gb_G) := gb_bd (f_X11_must sh g z0) (fun r1 => if (r1.1 77 19) = 0 then (gb_let (gb_pi r1 77 21 ((r1.1 77 21) + 1)) (fun g3 => f_X11_readOrder_85 sh gb_N g3 y1 (8 * (r1.1 77 21)) 0)) else (some r1))
noncomputable def f_X11_readOrder_27 (sh : List gb_Sh) (K4 : gb_G → Int32 → Int32 → Option (gb_G)) (g : gb_G) (y2 : Int32) (z0 : Int32) : Option (gb_G) := K4 g z0 (y2 + 1)
noncomputable def f_X11_readOrder_4 (sh : List gb_Sh) : Nat → gb_G → Int32 → Int32 → Option (gb_G)
  | 0, _, _, _ => none
  | n + 1, g, y1, y2 => if 4 ≤ y2 then (if y1 = (-1) then (f_X11_readOrder_54 sh g y1 0) else (if 12 ≤ (g.1 77 21) then (f_X11_readOrder_54 sh g y1 0) else (f_X11_readOrder_54 sh g y1 1))) else (gb_ck y2 4 (gb_bd (f_X11_isWord sh g (g.2.1 102 y2.toNatClampNeg)) (fun r37 => if r37.2 = 0 then (f_X11_readOrder_27 sh (fun w w0 w1 => f_X11_readOrder_4 sh n w w0 w1) r37.1 y2 y1) else (f_X11_readOrder_27 sh (fun w w0 w1 => f_X11_readOrder_4 sh n w w0 w1) r37.1 y2 y2))))
noncomputable def f_X11_readOrder (sh : List gb_Sh) (g : gb_G) : Option (gb_G) := f_X11_readOrder_4 sh gb_N g (-1) 0
set_option maxRecDepth 100000 in
set_option maxHeartbeats 4000000 in
theorem t_X11_readOrder_241 {Γ : gb_X} {sh : List gb_Sh} {out : gb_G} (hS : gb_S sh) : ∀ (g : gb_G) (y2 : Int32), f_X11_readOrder_241 sh g y2 = some out → gb_J Γ M_X11_readOrder 8 (gb_Rv sh out) 0 0 sh g 241 [(0, .ref 77), (2, .int y2)] [] := by
  intro g y2 h
  unfold f_X11_readOrder_241 at h
  refine gb_aload_n d_X11_readOrder_241 rfl ?_
  refine gb_getr (r := 103) f_X11_133 (hS 77 _ rfl) rfl d_X11_readOrder_242 ?_
  refine gb_iload_n d_X11_readOrder_245 rfl ?_
  refine gb_bipush 6 d_X11_readOrder_246 rfl ?_
  refine gb_iadd d_X11_readOrder_248 ?_
  refine gb_aload_n d_X11_readOrder_249 rfl ?_
  refine gb_geti f_X11_261 (hS 77 _ rfl) rfl d_X11_readOrder_250 ?_
  obtain ⟨hi10, h⟩ := gb_ck_e h
  refine gb_iast_ ((y2 + 6).toNatClampNeg) rfl (hS 103 _ rfl) hi10 d_X11_readOrder_253 ?_
  have h := gb_let_e h
  generalize gb_pi g 103 ((y2 + 6).toNatClampNeg) (g.1 77 23) = g11 at h ⊢
  cases h
  exact gb_vret d_X11_readOrder_254 rfl ⟨rfl, rfl, rfl⟩
set_option maxRecDepth 100000 in
set_option maxHeartbeats 4000000 in
theorem t_X11_readOrder_203 {Γ : gb_X} {sh : List gb_Sh} {out : gb_G} (hS : gb_S sh) : ∀ (g : gb_G) (y2 : Int32), f_X11_readOrder_203 sh g y2 = some out → gb_J Γ M_X11_readOrder 8 (gb_Rv sh out) 0 0 sh g 203 [(0, .ref 77), (2, .int y2)] [] := by
  intro g y2 h
  unfold f_X11_readOrder_203 at h
  refine gb_aload_n d_X11_readOrder_203 rfl ?_
  refine gb_getr (r := 103) f_X11_133 (hS 77 _ rfl) rfl d_X11_readOrder_204 ?_
  refine gb_iload_n d_X11_readOrder_207 rfl ?_
  refine gb_iconst 5 d_X11_readOrder_208 rfl ?_
  refine gb_iadd d_X11_readOrder_209 ?_
  refine gb_aload_n d_X11_readOrder_210 rfl ?_
  refine gb_geti f_X11_261 (hS 77 _ rfl) rfl d_X11_readOrder_211 ?_
  obtain ⟨hi8, h⟩ := gb_ck_e h
  refine gb_iast_ ((y2 + 5).toNatClampNeg) rfl (hS 103 _ rfl) hi8 d_X11_readOrder_214 ?_
  have h := gb_let_e h
  generalize gb_pi g 103 ((y2 + 5).toNatClampNeg) (g.1 77 23) = g9 at h ⊢
  refine gb_aload_n d_X11_readOrder_215 rfl ?_
  refine gb_geti f_X11_224 (hS 77 _ rfl) rfl d_X11_readOrder_216 ?_
  refine gb_if_ne 241 d_X11_readOrder_219 (by decide) (fun hc => ?_) (fun hc => ?_)
  · have h := gb_if hc h
    exact t_X11_readOrder_241 hS  _ y2 h
  · have h := gb_it hc h
    refine gb_aload_n d_X11_readOrder_222 rfl ?_
    refine gb_ldc2 294 k_X11_359 d_X11_readOrder_223 ?_
    obtain ⟨r12, e13, h⟩ := gb_bd_e h
    refine gb_cVi (As := [.long 294]) (rest := []) m_X11_280 (t_X11_isWord (Γ := Γ) hS e13) (hS 77 _ rfl) rfl (Nat.le_of_ble_eq_true rfl) rfl rfl (Nat.le_of_ble_eq_true rfl) d_X11_readOrder_226 ?_
    refine gb_if_eq 241 d_X11_readOrder_229 (by decide) (fun hc => ?_) (fun hc => ?_)
    · have h := gb_it hc h
      exact t_X11_readOrder_241 hS  _ y2 h
    · have h := gb_if hc h
      refine gb_aload_n d_X11_readOrder_232 rfl ?_
      obtain ⟨r14, e15, h⟩ := gb_bd_e h
      refine gb_cVv (As := []) (rest := []) m_X11_228 (t_X11_next (Γ := Γ) hS e15) (hS 77 _ rfl) rfl (Nat.le_of_ble_eq_true rfl) rfl rfl (Nat.le_of_ble_eq_true rfl) d_X11_readOrder_233 ?_
      refine gb_aload_n d_X11_readOrder_236 rfl ?_
      refine gb_iconst 1 d_X11_readOrder_237 rfl ?_
      obtain ⟨r16, e17, h⟩ := gb_bd_e h
      refine gb_cVv (As := [.int 1]) (rest := []) m_X11_356 (t_X11_readExpression (Γ := Γ) hS e17) (hS 77 _ rfl) rfl (Nat.le_of_ble_eq_true rfl) rfl rfl (Nat.le_of_ble_eq_true rfl) d_X11_readOrder_238 ?_
      exact t_X11_readOrder_241 hS  _ y2 h
set_option maxRecDepth 100000 in
set_option maxHeartbeats 4000000 in
theorem t_X11_readOrder_155 {Γ : gb_X} {sh : List gb_Sh} {out : gb_G} (hS : gb_S sh) : ∀ (g : gb_G) (y2 : Int32), f_X11_readOrder_155 sh g y2 = some out → gb_J Γ M_X11_readOrder 8 (gb_Rv sh out) 0 0 sh g 155 [(0, .ref 77), (2, .int y2)] [] := by
  intro g y2 h
  unfold f_X11_readOrder_155 at h
  refine gb_aload_n d_X11_readOrder_155 rfl ?_
  refine gb_getr (r := 103) f_X11_133 (hS 77 _ rfl) rfl d_X11_readOrder_156 ?_
  refine gb_iload_n d_X11_readOrder_159 rfl ?_
  refine gb_bipush 7 d_X11_readOrder_160 rfl ?_
  refine gb_iadd d_X11_readOrder_162 ?_
  refine gb_iconst 1 d_X11_readOrder_163 rfl ?_
  obtain ⟨hi6, h⟩ := gb_ck_e h
  refine gb_iast_ ((y2 + 7).toNatClampNeg) rfl (hS 103 _ rfl) hi6 d_X11_readOrder_164 ?_
  have h := gb_let_e h
  generalize gb_pi g 103 ((y2 + 7).toNatClampNeg) 1 = g7 at h ⊢
  refine gb_aload_n d_X11_readOrder_165 rfl ?_
  refine gb_geti f_X11_224 (hS 77 _ rfl) rfl d_X11_readOrder_166 ?_
  refine gb_if_ne 203 d_X11_readOrder_169 (by decide) (fun hc => ?_) (fun hc => ?_)
  · have h := gb_if hc h
    exact t_X11_readOrder_203 hS  _ y2 h
  · have h := gb_it hc h
    refine gb_aload_n d_X11_readOrder_172 rfl ?_
    refine gb_ldc2 21279923 k_X11_501 d_X11_readOrder_173 ?_
    obtain ⟨r18, e19, h⟩ := gb_bd_e h
    refine gb_cVi (As := [.long 21279923]) (rest := []) m_X11_280 (t_X11_isWord (Γ := Γ) hS e19) (hS 77 _ rfl) rfl (Nat.le_of_ble_eq_true rfl) rfl rfl (Nat.le_of_ble_eq_true rfl) d_X11_readOrder_176 ?_
    refine gb_if_eq 203 d_X11_readOrder_179 (by decide) (fun hc => ?_) (fun hc => ?_)
    · have h := gb_it hc h
      exact t_X11_readOrder_203 hS  _ y2 h
    · have h := gb_if hc h
      refine gb_aload_n d_X11_readOrder_182 rfl ?_
      obtain ⟨r20, e21, h⟩ := gb_bd_e h
      refine gb_cVv (As := []) (rest := []) m_X11_228 (t_X11_next (Γ := Γ) hS e21) (hS 77 _ rfl) rfl (Nat.le_of_ble_eq_true rfl) rfl rfl (Nat.le_of_ble_eq_true rfl) d_X11_readOrder_183 ?_
      refine gb_aload_n d_X11_readOrder_186 rfl ?_
      refine gb_getr (r := 103) f_X11_133 (hS 77 _ rfl) rfl d_X11_readOrder_187 ?_
      refine gb_iload_n d_X11_readOrder_190 rfl ?_
      refine gb_bipush 7 d_X11_readOrder_191 rfl ?_
      refine gb_iadd d_X11_readOrder_193 ?_
      refine gb_aload_n d_X11_readOrder_194 rfl ?_
      refine gb_lconst 1 d_X11_readOrder_195 rfl ?_
      refine gb_ldc2 20 k_X11_274 d_X11_readOrder_196 ?_
      obtain ⟨r22, e23, h⟩ := gb_bd_e h
      refine gb_cVi (As := [.long 1, .long 20]) (rest := [.int (y2 + 7), .ref 103]) m_X11_317 (t_X11_number (Γ := Γ) hS e23) (hS 77 _ rfl) rfl (Nat.le_of_ble_eq_true rfl) rfl rfl (Nat.le_of_ble_eq_true rfl) d_X11_readOrder_199 ?_
      obtain ⟨hi24, h⟩ := gb_ck_e h
      refine gb_iast_ ((y2 + 7).toNatClampNeg) rfl (hS 103 _ rfl) hi24 d_X11_readOrder_202 ?_
      have h := gb_let_e h
      generalize gb_pi r22.1 103 ((y2 + 7).toNatClampNeg) r22.2 = g25 at h ⊢
      exact t_X11_readOrder_203 hS  _ y2 h
set_option maxRecDepth 100000 in
set_option maxHeartbeats 4000000 in
theorem t_X11_readOrder_148 {Γ : gb_X} {sh : List gb_Sh} {out : gb_G} (hS : gb_S sh) {K155 : gb_G → Int32 → Option (gb_G)} (hK155 : ∀ (g : gb_G) (y2 : Int32), K155 g y2 = some out → gb_J Γ M_X11_readOrder 8 (gb_Rv sh out) 0 0 sh g 155 [(0, .ref 77), (2, .int y2)] []) : ∀ (g : gb_G) (y2 : Int32), f_X11_readOrder_148 sh K155 g y2 = some out → gb_J Γ M_X11_readOrder 8 (gb_Rv sh out) 0 0 sh g 148 [(0, .ref 77), (2, .int y2)] [] := by
  intro g y2 h
  unfold f_X11_readOrder_148 at h
  refine gb_aload_n d_X11_readOrder_148 rfl ?_
  refine gb_iload_n d_X11_readOrder_149 rfl ?_
  refine gb_iconst 3 d_X11_readOrder_150 rfl ?_
  refine gb_iadd d_X11_readOrder_151 ?_
  obtain ⟨r26, e27, h⟩ := gb_bd_e h
  refine gb_cVv (As := [.int (y2 + 3)]) (rest := []) m_X11_496 (t_X11_readSum (Γ := Γ) hS e27) (hS 77 _ rfl) rfl (Nat.le_of_ble_eq_true rfl) rfl rfl (Nat.le_of_ble_eq_true rfl) d_X11_readOrder_152 ?_
  exact hK155 _ y2 h
set_option maxRecDepth 100000 in
set_option maxHeartbeats 4000000 in
theorem t_X11_readOrder_125 {Γ : gb_X} {sh : List gb_Sh} {out : gb_G} (hS : gb_S sh) : ∀ (g : gb_G) (y1 : Int32) (y2 : Int32), f_X11_readOrder_125 sh g y1 y2 = some out → gb_J Γ M_X11_readOrder 8 (gb_Rv sh out) 0 0 sh g 125 [(0, .ref 77), (1, .int y1), (2, .int y2)] [] := by
  intro g y1 y2 h
  unfold f_X11_readOrder_125 at h
  refine gb_iload_n d_X11_readOrder_125 rfl ?_
  refine gb_iconst 2 d_X11_readOrder_126 rfl ?_
  refine gb_icmp_ne 155 d_X11_readOrder_127 (by decide) (fun hc => ?_) (fun hc => ?_)
  · have h := gb_if hc h
    refine gb_pick (lv' := [(0, .ref 77), (2, .int y2)]) [0, 2] rfl ?_
    exact t_X11_readOrder_155 hS  _ y2 h
  · have h := gb_it hc h
    refine gb_aload_n d_X11_readOrder_130 rfl ?_
    refine gb_geti f_X11_224 (hS 77 _ rfl) rfl d_X11_readOrder_131 ?_
    refine gb_if_ne 148 d_X11_readOrder_134 (by decide) (fun hc => ?_) (fun hc => ?_)
    · have h := gb_if hc h
      refine gb_pick (lv' := [(0, .ref 77), (2, .int y2)]) [0, 2] rfl ?_
      exact t_X11_readOrder_148 hS (fun w w0 hw => t_X11_readOrder_155 hS  w w0 hw) _ y2 h
    · have h := gb_it hc h
      refine gb_aload_n d_X11_readOrder_137 rfl ?_
      refine gb_aload_n d_X11_readOrder_138 rfl ?_
      refine gb_ldc2 89 k_X11_499 d_X11_readOrder_139 ?_
      obtain ⟨r28, e29, h⟩ := gb_bd_e h
      refine gb_cVi (As := [.long 89]) (rest := [.ref 77]) m_X11_280 (t_X11_isWord (Γ := Γ) hS e29) (hS 77 _ rfl) rfl (Nat.le_of_ble_eq_true rfl) rfl rfl (Nat.le_of_ble_eq_true rfl) d_X11_readOrder_142 ?_
      obtain ⟨r30, e31, h⟩ := gb_bd_e h
      refine gb_cVv (As := [.int r28.2]) (rest := []) m_X11_257 (t_X11_must (Γ := Γ) hS e31) (hS 77 _ rfl) rfl (Nat.le_of_ble_eq_true rfl) rfl rfl (Nat.le_of_ble_eq_true rfl) d_X11_readOrder_145 ?_
      refine gb_pick (lv' := [(0, .ref 77), (2, .int y2)]) [0, 2] rfl ?_
      exact t_X11_readOrder_148 hS (fun w w0 hw => t_X11_readOrder_155 hS  w w0 hw) _ y2 h
set_option maxRecDepth 100000 in
set_option maxHeartbeats 4000000 in
theorem t_X11_readOrder_85 {Γ : gb_X} {sh : List gb_Sh} {out : gb_G} (hS : gb_S sh) : ∀ (n : Nat) (g : gb_G) (y1 : Int32) (y2 : Int32) (y3 : Int32), f_X11_readOrder_85 sh n g y1 y2 y3 = some out → gb_J Γ M_X11_readOrder 8 (gb_Rv sh out) 0 0 sh g 85 [(0, .ref 77), (1, .int y1), (2, .int y2), (3, .int y3)] [] := by
  intro n
  induction n with
  | zero => intro g y1 y2 y3 h; cases h
  | succ n ih =>
    intro g y1 y2 y3 h
    rw [f_X11_readOrder_85] at h
    refine gb_iload_n d_X11_readOrder_85 rfl ?_
    refine gb_bipush 8 d_X11_readOrder_86 rfl ?_
    refine gb_icmp_ge 106 d_X11_readOrder_88 (by decide) (fun hc => ?_) (fun hc => ?_)
    · have h := gb_it hc h
      refine gb_aload_n d_X11_readOrder_106 rfl ?_
      refine gb_getr (r := 103) f_X11_133 (hS 77 _ rfl) rfl d_X11_readOrder_107 ?_
      refine gb_iload_n d_X11_readOrder_110 rfl ?_
      refine gb_iload_n d_X11_readOrder_111 rfl ?_
      obtain ⟨hi4, h⟩ := gb_ck_e h
      refine gb_iast_ y2.toNatClampNeg rfl (hS 103 _ rfl) hi4 d_X11_readOrder_112 ?_
      have h := gb_let_e h
      generalize gb_pi g 103 y2.toNatClampNeg y1 = g5 at h ⊢
      refine gb_iload_n d_X11_readOrder_113 rfl ?_
      refine gb_iconst 3 d_X11_readOrder_114 rfl ?_
      refine gb_icmp_eq 125 d_X11_readOrder_115 (by decide) (fun hc => ?_) (fun hc => ?_)
      · have h := gb_it hc h
        refine gb_pick (lv' := [(0, .ref 77), (1, .int y1), (2, .int y2)]) [0, 1, 2] rfl ?_
        exact t_X11_readOrder_125 hS  _ y1 y2 h
      · have h := gb_if hc h
        refine gb_aload_n d_X11_readOrder_118 rfl ?_
        refine gb_iload_n d_X11_readOrder_119 rfl ?_
        refine gb_iconst 1 d_X11_readOrder_120 rfl ?_
        refine gb_iadd d_X11_readOrder_121 ?_
        obtain ⟨r32, e33, h⟩ := gb_bd_e h
        refine gb_cVv (As := [.int (y2 + 1)]) (rest := []) m_X11_496 (t_X11_readSum (Γ := Γ) hS e33) (hS 77 _ rfl) rfl (Nat.le_of_ble_eq_true rfl) rfl rfl (Nat.le_of_ble_eq_true rfl) d_X11_readOrder_122 ?_
        refine gb_pick (lv' := [(0, .ref 77), (1, .int y1), (2, .int y2)]) [0, 1, 2] rfl ?_
        exact t_X11_readOrder_125 hS  _ y1 y2 h
    · have h := gb_if hc h
      refine gb_aload_n d_X11_readOrder_91 rfl ?_
      refine gb_getr (r := 103) f_X11_133 (hS 77 _ rfl) rfl d_X11_readOrder_92 ?_
      refine gb_iload_n d_X11_readOrder_95 rfl ?_
      refine gb_iload_n d_X11_readOrder_96 rfl ?_
      refine gb_iadd d_X11_readOrder_97 ?_
      refine gb_iconst 0 d_X11_readOrder_98 rfl ?_
      obtain ⟨hi34, h⟩ := gb_ck_e h
      refine gb_iast_ ((y2 + y3).toNatClampNeg) rfl (hS 103 _ rfl) hi34 d_X11_readOrder_99 ?_
      have h := gb_let_e h
      generalize gb_pi g 103 ((y2 + y3).toNatClampNeg) 0 = g35 at h ⊢
      refine gb_iinc (y3 + 1) [(3, .int (y3 + 1)), (0, .ref 77), (1, .int y1), (2, .int y2)] d_X11_readOrder_100 (Nat.le_of_ble_eq_true rfl) rfl rfl rfl ?_
      refine gb_goto 85 d_X11_readOrder_103 (by decide) ?_
      refine gb_pick (lv' := [(0, .ref 77), (1, .int y1), (2, .int y2), (3, .int (y3 + 1))]) [1, 2, 3, 0] rfl ?_
      exact ih _ y1 y2 (y3 + 1) h
set_option maxRecDepth 100000 in
set_option maxHeartbeats 4000000 in
theorem t_X11_readOrder_54 {Γ : gb_X} {sh : List gb_Sh} {out : gb_G} (hS : gb_S sh) : ∀ (g : gb_G) (y1 : Int32) (z0 : Int32), f_X11_readOrder_54 sh g y1 z0 = some out → gb_J Γ M_X11_readOrder 8 (gb_Rv sh out) 0 0 sh g 54 [(0, .ref 77), (1, .int y1)] [.int z0, .ref 77] := by
  intro g y1 z0 h
  unfold f_X11_readOrder_54 at h
  obtain ⟨r1, e2, h⟩ := gb_bd_e h
  refine gb_cVv (As := [.int z0]) (rest := []) m_X11_257 (t_X11_must (Γ := Γ) hS e2) (hS 77 _ rfl) rfl (Nat.le_of_ble_eq_true rfl) rfl rfl (Nat.le_of_ble_eq_true rfl) d_X11_readOrder_54 ?_
  refine gb_aload_n d_X11_readOrder_57 rfl ?_
  refine gb_geti f_X11_224 (hS 77 _ rfl) rfl d_X11_readOrder_58 ?_
  refine gb_if_eq 65 d_X11_readOrder_61 (by decide) (fun hc => ?_) (fun hc => ?_)
  · have h := gb_it hc h
    refine gb_bipush 8 d_X11_readOrder_65 rfl ?_
    refine gb_aload_n d_X11_readOrder_67 rfl ?_
    refine gb_geti f_X11_353 (hS 77 _ rfl) rfl d_X11_readOrder_68 ?_
    refine gb_imul d_X11_readOrder_71 ?_
    refine gb_istore_n [(2, .int (8 * (r1.1 77 21))), (0, .ref 77), (1, .int y1)] d_X11_readOrder_72 (Nat.le_of_ble_eq_true rfl) rfl ?_
    refine gb_aload_n d_X11_readOrder_73 rfl ?_
    refine gb_dup d_X11_readOrder_74 rfl ?_
    refine gb_geti f_X11_353 (hS 77 _ rfl) rfl d_X11_readOrder_75 ?_
    refine gb_iconst 1 d_X11_readOrder_78 rfl ?_
    refine gb_iadd d_X11_readOrder_79 ?_
    refine gb_puti f_X11_353 (fun h => nomatch h) (hS 77 _ rfl) rfl rfl rfl d_X11_readOrder_80 ?_
    have h := gb_let_e h
    generalize gb_pi r1 77 21 ((r1.1 77 21) + 1) = g3 at h ⊢
    refine gb_iconst 0 d_X11_readOrder_83 rfl ?_
    refine gb_istore_n [(3, .int 0), (2, .int (8 * (r1.1 77 21))), (0, .ref 77), (1, .int y1)] d_X11_readOrder_84 (Nat.le_of_ble_eq_true rfl) rfl ?_
    refine gb_pick (lv' := [(0, .ref 77), (1, .int y1), (2, .int (8 * (r1.1 77 21))), (3, .int 0)]) [2, 3, 1, 0] rfl ?_
    exact t_X11_readOrder_85 hS  gb_N _ y1 (8 * (r1.1 77 21)) 0 h
  · have h := gb_if hc h
    cases h
    exact gb_vret d_X11_readOrder_64 rfl ⟨rfl, rfl, rfl⟩
set_option maxRecDepth 100000 in
set_option maxHeartbeats 4000000 in
theorem t_X11_readOrder_27 {Γ : gb_X} {sh : List gb_Sh} {out : gb_G} (hS : gb_S sh) {K4 : gb_G → Int32 → Int32 → Option (gb_G)} (hK4 : ∀ (g : gb_G) (y1 : Int32) (y2 : Int32), K4 g y1 y2 = some out → gb_J Γ M_X11_readOrder 8 (gb_Rv sh out) 0 0 sh g 4 [(0, .ref 77), (1, .int y1), (2, .int y2)] []) : ∀ (g : gb_G) (y2 : Int32) (z0 : Int32), f_X11_readOrder_27 sh K4 g y2 z0 = some out → gb_J Γ M_X11_readOrder 8 (gb_Rv sh out) 0 0 sh g 27 [(0, .ref 77), (2, .int y2)] [.int z0] := by
  intro g y2 z0 h
  unfold f_X11_readOrder_27 at h
  refine gb_istore_n [(1, .int z0), (0, .ref 77), (2, .int y2)] d_X11_readOrder_27 (Nat.le_of_ble_eq_true rfl) rfl ?_
  refine gb_iinc (y2 + 1) [(2, .int (y2 + 1)), (1, .int z0), (0, .ref 77)] d_X11_readOrder_28 (Nat.le_of_ble_eq_true rfl) rfl rfl rfl ?_
  refine gb_goto 4 d_X11_readOrder_31 (by decide) ?_
  refine gb_pick (lv' := [(0, .ref 77), (1, .int z0), (2, .int (y2 + 1))]) [2, 1, 0] rfl ?_
  exact hK4 _ z0 (y2 + 1) h
set_option maxRecDepth 100000 in
set_option maxHeartbeats 4000000 in
theorem t_X11_readOrder_4 {Γ : gb_X} {sh : List gb_Sh} {out : gb_G} (hS : gb_S sh) : ∀ (n : Nat) (g : gb_G) (y1 : Int32) (y2 : Int32), f_X11_readOrder_4 sh n g y1 y2 = some out → gb_J Γ M_X11_readOrder 8 (gb_Rv sh out) 0 0 sh g 4 [(0, .ref 77), (1, .int y1), (2, .int y2)] [] := by
  intro n
  induction n with
  | zero => intro g y1 y2 h; cases h
  | succ n ih =>
    intro g y1 y2 h
    rw [f_X11_readOrder_4] at h
    refine gb_iload_n d_X11_readOrder_4 rfl ?_
    refine gb_iconst 4 d_X11_readOrder_5 rfl ?_
    refine gb_icmp_ge 34 d_X11_readOrder_6 (by decide) (fun hc => ?_) (fun hc => ?_)
    · have h := gb_it hc h
      refine gb_aload_n d_X11_readOrder_34 rfl ?_
      refine gb_iload_n d_X11_readOrder_35 rfl ?_
      refine gb_iconst (-1) d_X11_readOrder_36 rfl ?_
      refine gb_icmp_eq 53 d_X11_readOrder_37 (by decide) (fun hc => ?_) (fun hc => ?_)
      · have h := gb_it hc h
        refine gb_iconst 0 d_X11_readOrder_53 rfl ?_
        refine gb_pick (lv' := [(0, .ref 77), (1, .int y1)]) [0, 1] rfl ?_
        exact t_X11_readOrder_54 hS  _ y1 0 h
      · have h := gb_if hc h
        refine gb_aload_n d_X11_readOrder_40 rfl ?_
        refine gb_geti f_X11_353 (hS 77 _ rfl) rfl d_X11_readOrder_41 ?_
        refine gb_bipush 12 d_X11_readOrder_44 rfl ?_
        refine gb_icmp_ge 53 d_X11_readOrder_46 (by decide) (fun hc => ?_) (fun hc => ?_)
        · have h := gb_it hc h
          refine gb_iconst 0 d_X11_readOrder_53 rfl ?_
          refine gb_pick (lv' := [(0, .ref 77), (1, .int y1)]) [0, 1] rfl ?_
          exact t_X11_readOrder_54 hS  _ y1 0 h
        · have h := gb_if hc h
          refine gb_iconst 1 d_X11_readOrder_49 rfl ?_
          refine gb_goto 54 d_X11_readOrder_50 (by decide) ?_
          refine gb_pick (lv' := [(0, .ref 77), (1, .int y1)]) [0, 1] rfl ?_
          exact t_X11_readOrder_54 hS  _ y1 1 h
    · have h := gb_if hc h
      refine gb_aload_n d_X11_readOrder_9 rfl ?_
      refine gb_aload_n d_X11_readOrder_10 rfl ?_
      refine gb_getr (r := 102) f_X11_130 (hS 77 _ rfl) rfl d_X11_readOrder_11 ?_
      refine gb_iload_n d_X11_readOrder_14 rfl ?_
      obtain ⟨hi36, h⟩ := gb_ck_e h
      refine gb_lald_ y2.toNatClampNeg rfl (hS 102 _ rfl) hi36 d_X11_readOrder_15 ?_
      obtain ⟨r37, e38, h⟩ := gb_bd_e h
      refine gb_cVi (As := [.long (g.2.1 102 y2.toNatClampNeg)]) (rest := []) m_X11_280 (t_X11_isWord (Γ := Γ) hS e38) (hS 77 _ rfl) rfl (Nat.le_of_ble_eq_true rfl) rfl rfl (Nat.le_of_ble_eq_true rfl) d_X11_readOrder_16 ?_
      refine gb_if_eq 26 d_X11_readOrder_19 (by decide) (fun hc => ?_) (fun hc => ?_)
      · have h := gb_it hc h
        refine gb_iload_n d_X11_readOrder_26 rfl ?_
        refine gb_pick (lv' := [(0, .ref 77), (2, .int y2)]) [0, 2] rfl ?_
        exact t_X11_readOrder_27 hS (fun w w0 w1 hw => ih w w0 w1 hw) _ y2 y1 h
      · have h := gb_if hc h
        refine gb_iload_n d_X11_readOrder_22 rfl ?_
        refine gb_goto 27 d_X11_readOrder_23 (by decide) ?_
        refine gb_pick (lv' := [(0, .ref 77), (2, .int y2)]) [0, 2] rfl ?_
        exact t_X11_readOrder_27 hS (fun w w0 w1 hw => ih w w0 w1 hw) _ y2 y2 h
set_option maxRecDepth 100000 in
set_option maxHeartbeats 4000000 in
theorem t_X11_readOrder {Γ : gb_X} {sh : List gb_Sh} {out : gb_G} (hS : gb_S sh) {g : gb_G} (h : f_X11_readOrder sh g = some out) : gb_C Γ M_X11_readOrder 8 0 0 sh g [.ref 77] (gb_Rv sh out) := by
  refine gb_C.of rfl (Nat.le_of_ble_eq_true rfl) ?_
  refine gb_pick (lv' := [(0, .ref 77)]) [0] rfl ?_
  unfold f_X11_readOrder at h
  refine gb_iconst (-1) d_X11_readOrder_0 rfl ?_
  refine gb_istore_n [(1, .int (-1)), (0, .ref 77)] d_X11_readOrder_1 (Nat.le_of_ble_eq_true rfl) rfl ?_
  refine gb_iconst 0 d_X11_readOrder_2 rfl ?_
  refine gb_istore_n [(2, .int 0), (1, .int (-1)), (0, .ref 77)] d_X11_readOrder_3 (Nat.le_of_ble_eq_true rfl) rfl ?_
  refine gb_pick (lv' := [(0, .ref 77), (1, .int (-1)), (2, .int 0)]) [2, 1, 0] rfl ?_
  exact t_X11_readOrder_4 hS  gb_N _ (-1) 0 h
-- X11_sumOf
noncomputable def f_X11_sumOf (sh : List gb_Sh) (g : gb_G) (x1 : Int32) : Option (gb_G × Int32) := if (g.1 77 52) = 0 then (gb_ck x1 96 (gb_ck (x1 + 1) 96 (if (g.1 103 x1.toNatClampNeg) = (g.1 103 ((x1 + 1).toNatClampNeg)) then (some (g, (-1))) else (gb_let (gb_pi g 77 20 1) (fun g3 => gb_ck x1 96 (gb_ck (x1 + 1) 96 (gb_bd (f_X11_reckonAll sh g3 (g3.1 103 x1.toNatClampNeg) (g3.1 103 ((x1 + 1).toNatClampNeg))) (fun r6 => gb_let (gb_pi r6 77 20 0) (fun g8 => gb_bo (g8.1 77 38) (gb_let (gb_pi g8 77 52 (g8.1 77 38)) (fun g9 => some (g9, (g9.2.1 77 39).toInt32)))))))))))) else (some (g, (-1)))
set_option maxRecDepth 100000 in
set_option maxHeartbeats 4000000 in
theorem t_X11_sumOf {Γ : gb_X} {sh : List gb_Sh} {x1 : Int32} {out : gb_G × Int32} (hS : gb_S sh) {g : gb_G} (h : f_X11_sumOf sh g x1 = some out) : gb_C Γ M_X11_sumOf 3 0 0 sh g [.ref 77, .int x1] (gb_Ri sh out) := by
  refine gb_C.of rfl (Nat.le_of_ble_eq_true rfl) ?_
  refine gb_pick (lv' := [(0, .ref 77), (1, .int x1)]) [0, 1] rfl ?_
  unfold f_X11_sumOf at h
  refine gb_aload_n d_X11_sumOf_0 rfl ?_
  refine gb_geti f_X11_503 (hS 77 _ rfl) rfl d_X11_sumOf_1 ?_
  refine gb_if_ne 24 d_X11_sumOf_4 (by decide) (fun hc => ?_) (fun hc => ?_)
  · have h := gb_if hc h
    refine gb_iconst (-1) d_X11_sumOf_24 rfl ?_
    cases h
    exact gb_iret d_X11_sumOf_25 rfl ⟨rfl, rfl, rfl⟩
  · have h := gb_it hc h
    refine gb_aload_n d_X11_sumOf_7 rfl ?_
    refine gb_getr (r := 103) f_X11_133 (hS 77 _ rfl) rfl d_X11_sumOf_8 ?_
    refine gb_iload_n d_X11_sumOf_11 rfl ?_
    obtain ⟨hi1, h⟩ := gb_ck_e h
    refine gb_iald_ x1.toNatClampNeg rfl (hS 103 _ rfl) hi1 d_X11_sumOf_12 ?_
    refine gb_aload_n d_X11_sumOf_13 rfl ?_
    refine gb_getr (r := 103) f_X11_133 (hS 77 _ rfl) rfl d_X11_sumOf_14 ?_
    refine gb_iload_n d_X11_sumOf_17 rfl ?_
    refine gb_iconst 1 d_X11_sumOf_18 rfl ?_
    refine gb_iadd d_X11_sumOf_19 ?_
    obtain ⟨hi2, h⟩ := gb_ck_e h
    refine gb_iald_ ((x1 + 1).toNatClampNeg) rfl (hS 103 _ rfl) hi2 d_X11_sumOf_20 ?_
    refine gb_icmp_ne 26 d_X11_sumOf_21 (by decide) (fun hc => ?_) (fun hc => ?_)
    · have h := gb_if hc h
      refine gb_aload_n d_X11_sumOf_26 rfl ?_
      refine gb_iconst 1 d_X11_sumOf_27 rfl ?_
      refine gb_puti f_X11_299 (fun h => nomatch h) (hS 77 _ rfl) rfl rfl rfl d_X11_sumOf_28 ?_
      have h := gb_let_e h
      generalize gb_pi g 77 20 1 = g3 at h ⊢
      refine gb_aload_n d_X11_sumOf_31 rfl ?_
      refine gb_aload_n d_X11_sumOf_32 rfl ?_
      refine gb_getr (r := 103) f_X11_133 (hS 77 _ rfl) rfl d_X11_sumOf_33 ?_
      refine gb_iload_n d_X11_sumOf_36 rfl ?_
      obtain ⟨hi4, h⟩ := gb_ck_e h
      refine gb_iald_ x1.toNatClampNeg rfl (hS 103 _ rfl) hi4 d_X11_sumOf_37 ?_
      refine gb_aload_n d_X11_sumOf_38 rfl ?_
      refine gb_getr (r := 103) f_X11_133 (hS 77 _ rfl) rfl d_X11_sumOf_39 ?_
      refine gb_iload_n d_X11_sumOf_42 rfl ?_
      refine gb_iconst 1 d_X11_sumOf_43 rfl ?_
      refine gb_iadd d_X11_sumOf_44 ?_
      obtain ⟨hi5, h⟩ := gb_ck_e h
      refine gb_iald_ ((x1 + 1).toNatClampNeg) rfl (hS 103 _ rfl) hi5 d_X11_sumOf_45 ?_
      obtain ⟨r6, e7, h⟩ := gb_bd_e h
      refine gb_cVv (As := [.int (g3.1 103 x1.toNatClampNeg), .int (g3.1 103 ((x1 + 1).toNatClampNeg))]) (rest := []) m_X11_390 (t_X11_reckonAll (Γ := Γ) hS e7) (hS 77 _ rfl) rfl (Nat.le_of_ble_eq_true rfl) rfl rfl (Nat.le_of_ble_eq_true rfl) d_X11_sumOf_46 ?_
      refine gb_aload_n d_X11_sumOf_49 rfl ?_
      refine gb_iconst 0 d_X11_sumOf_50 rfl ?_
      refine gb_puti f_X11_299 (fun h => nomatch h) (hS 77 _ rfl) rfl rfl rfl d_X11_sumOf_51 ?_
      have h := gb_let_e h
      generalize gb_pi r6 77 20 0 = g8 at h ⊢
      refine gb_aload_n d_X11_sumOf_54 rfl ?_
      refine gb_aload_n d_X11_sumOf_55 rfl ?_
      refine gb_geti f_X11_373 (hS 77 _ rfl) rfl d_X11_sumOf_56 ?_
      obtain ⟨hb10, hb10f, h⟩ := gb_bo_e2 h
      refine gb_puti f_X11_503 (fun h => nomatch h) (hS 77 _ rfl) rfl hb10 hb10f d_X11_sumOf_59 ?_
      have h := gb_let_e h
      generalize gb_pi g8 77 52 (g8.1 77 38) = g9 at h ⊢
      refine gb_aload_n d_X11_sumOf_62 rfl ?_
      refine gb_getl f_X11_387 (hS 77 _ rfl) rfl d_X11_sumOf_63 ?_
      refine gb_l2i d_X11_sumOf_66 ?_
      cases h
      exact gb_iret d_X11_sumOf_67 rfl ⟨rfl, rfl, rfl⟩
    · have h := gb_it hc h
      refine gb_iconst (-1) d_X11_sumOf_24 rfl ?_
      cases h
      exact gb_iret d_X11_sumOf_25 rfl ⟨rfl, rfl, rfl⟩
-- X11_act
noncomputable def f_X11_act (sh : List gb_Sh) (g : gb_G) (x1 : Int32) (x2 : Int32) (x3 : Int32) : Option (gb_G × Int32) := if x1 = 0 then (gb_bd (f_X11_lackNow sh g x2) (fun r2 => some (r2.1, r2.2))) else if x1 = 1 then (gb_bd (f_X11_findNow sh g x2) (fun r5 => some (r5.1, r5.2))) else if x1 = 2 then (gb_bd (f_X11_weighNow sh g x2 x3) (fun r8 => some (r8.1, r8.2))) else (gb_bd (f_X11_passNow sh g) (fun r10 => some (r10.1, r10.2)))
set_option maxRecDepth 100000 in
set_option maxHeartbeats 4000000 in
theorem t_X11_act {Γ : gb_X} {sh : List gb_Sh} {x1 : Int32} {x2 : Int32} {x3 : Int32} {out : gb_G × Int32} (hS : gb_S sh) {g : gb_G} (h : f_X11_act sh g x1 x2 x3 = some out) : gb_C Γ M_X11_act 8 0 0 sh g [.ref 77, .int x1, .int x2, .int x3] (gb_Ri sh out) := by
  refine gb_C.of rfl (Nat.le_of_ble_eq_true rfl) ?_
  refine gb_pick (lv' := [(0, .ref 77), (1, .int x1), (2, .int x2), (3, .int x3)]) [0, 1, 2, 3] rfl ?_
  unfold f_X11_act at h
  refine gb_iload_n d_X11_act_0 rfl ?_
  by_cases hc1 : x1 = 0
  · have h := gb_it hc1 h
    refine gb_tabI 28 hc1 d_X11_act_1 (by decide) (by decide) rfl (by decide) ?_
    refine gb_aload_n d_X11_act_28 rfl ?_
    refine gb_iload_n d_X11_act_29 rfl ?_
    obtain ⟨r2, e3, h⟩ := gb_bd_e h
    refine gb_cVi (As := [.int x2]) (rest := []) m_X11_413 (t_X11_lackNow (Γ := Γ) hS e3) (hS 77 _ rfl) rfl (Nat.le_of_ble_eq_true rfl) rfl rfl (Nat.le_of_ble_eq_true rfl) d_X11_act_30 ?_
    cases h
    exact gb_iret d_X11_act_33 rfl ⟨rfl, rfl, rfl⟩
  replace h := gb_if hc1 h
  by_cases hc4 : x1 = 1
  · have h := gb_it hc4 h
    refine gb_tabI 34 hc4 d_X11_act_1 (by decide) (by decide) rfl (by decide) ?_
    refine gb_aload_n d_X11_act_34 rfl ?_
    refine gb_iload_n d_X11_act_35 rfl ?_
    obtain ⟨r5, e6, h⟩ := gb_bd_e h
    refine gb_cVi (As := [.int x2]) (rest := []) m_X11_416 (t_X11_findNow (Γ := Γ) hS e6) (hS 77 _ rfl) rfl (Nat.le_of_ble_eq_true rfl) rfl rfl (Nat.le_of_ble_eq_true rfl) d_X11_act_36 ?_
    cases h
    exact gb_iret d_X11_act_39 rfl ⟨rfl, rfl, rfl⟩
  replace h := gb_if hc4 h
  by_cases hc7 : x1 = 2
  · have h := gb_it hc7 h
    refine gb_tabI 40 hc7 d_X11_act_1 (by decide) (by decide) rfl (by decide) ?_
    refine gb_aload_n d_X11_act_40 rfl ?_
    refine gb_iload_n d_X11_act_41 rfl ?_
    refine gb_iload_n d_X11_act_42 rfl ?_
    obtain ⟨r8, e9, h⟩ := gb_bd_e h
    refine gb_cVi (As := [.int x2, .int x3]) (rest := []) m_X11_419 (t_X11_weighNow (Γ := Γ) hS e9) (hS 77 _ rfl) rfl (Nat.le_of_ble_eq_true rfl) rfl rfl (Nat.le_of_ble_eq_true rfl) d_X11_act_43 ?_
    cases h
    exact gb_iret d_X11_act_46 rfl ⟨rfl, rfl, rfl⟩
  replace h := gb_if hc7 h
  refine gb_tabO 47 d_X11_act_1 (gb_out 3 (by decide) (by decide) (by decide) (fun i hi => match i, hi with | 0, _ => hc1 | 1, _ => hc4 | 2, _ => hc7 | q + 3, h9 => absurd h9 (Nat.not_lt.mpr (Nat.le_add_left _ _)))) (by decide) ?_
  refine gb_aload_n d_X11_act_47 rfl ?_
  obtain ⟨r10, e11, h⟩ := gb_bd_e h
  refine gb_cVi (As := []) (rest := []) m_X11_425 (t_X11_passNow (Γ := Γ) hS e11) (hS 77 _ rfl) rfl (Nat.le_of_ble_eq_true rfl) rfl rfl (Nat.le_of_ble_eq_true rfl) d_X11_act_48 ?_
  cases h
  exact gb_iret d_X11_act_51 rfl ⟨rfl, rfl, rfl⟩
-- X11_run
noncomputable def f_X11_run_171 (sh : List gb_Sh) (g : gb_G) (z0 : Int32) : Option (gb_G × Int32) := gb_let (gb_pi g 77 50 z0) (fun g21 => gb_let (gb_pi g21 77 49 ((g21.1 77 49) + 1)) (fun g22 => some (g22, 0)))
noncomputable def f_X11_run_103 (sh : List gb_Sh) (g : gb_G) (y1 : Int32) : Option (gb_G × Int32) := gb_bd (f_X11_sumOf sh g (y1 + 1)) (fun r13 => gb_bd (f_X11_sumOf sh r13.1 (y1 + 3)) (fun r15 => if (r15.1.1 77 52) = 0 then (gb_ck y1 96 (gb_bd (f_X11_act sh r15.1 (r15.1.1 103 y1.toNatClampNeg) r13.2 r15.2) (fun r18 => if 0 ≤ r18.2 then (gb_ck y1 96 (if (r18.1.1 103 y1.toNatClampNeg) = 2 then (f_X11_run_171 sh r18.1 r18.2) else (f_X11_run_171 sh r18.1 (r18.1.1 77 50)))) else (some (r18.1, (-3)))))) else (some (r15.1, (-3)))))
noncomputable def f_X11_run (sh : List gb_Sh) (g : gb_G) (x1 : Int32) : Option (gb_G × Int32) := gb_let (gb_pj g 96 1 ((g.1 79 5).toInt64)) (fun g1 => gb_let (gb_pj g1 96 2 ((g1.1 77 49).toInt64)) (fun g2 => gb_let (gb_pj g2 96 3 ((g2.1 77 50).toInt64)) (fun g3 => gb_bd (f_X11_pensionNow sh g3) (fun r4 => gb_let (gb_pj r4.1 96 4 r4.2.toInt64) (fun g6 => gb_bd (f_X11_lackingOnes sh g6) (fun r7 => gb_let (gb_pj r7.1 96 5 r7.2.toInt64) (fun g9 => gb_let (gb_pi g9 77 52 0) (fun g10 => gb_ck (x1 + 5) 96 (gb_ck (x1 + 6) 96 (if (g10.1 103 ((x1 + 6).toNatClampNeg)) ≤ (g10.1 103 ((x1 + 5).toNatClampNeg)) then (f_X11_run_103 sh g10 x1) else (gb_bd (f_X11_sumOf sh g10 (x1 + 5)) (fun r23 => if (r23.1.1 77 52) = 0 then (if r23.2 = 0 then (some (r23.1, 0)) else (f_X11_run_103 sh r23.1 x1)) else (some (r23.1, 0))))))))))))))
set_option maxRecDepth 100000 in
set_option maxHeartbeats 4000000 in
theorem t_X11_run_171 {Γ : gb_X} {sh : List gb_Sh} {out : gb_G × Int32} (hS : gb_S sh) : ∀ (g : gb_G) (z0 : Int32), f_X11_run_171 sh g z0 = some out → gb_J Γ M_X11_run 9 (gb_Ri sh out) 0 0 sh g 171 [(0, .ref 77)] [.int z0, .ref 77] := by
  intro g z0 h
  unfold f_X11_run_171 at h
  refine gb_puti f_X11_509 (fun h => nomatch h) (hS 77 _ rfl) rfl rfl rfl d_X11_run_171 ?_
  have h := gb_let_e h
  generalize gb_pi g 77 50 z0 = g21 at h ⊢
  refine gb_aload_n d_X11_run_174 rfl ?_
  refine gb_dup d_X11_run_175 rfl ?_
  refine gb_geti f_X11_506 (hS 77 _ rfl) rfl d_X11_run_176 ?_
  refine gb_iconst 1 d_X11_run_179 rfl ?_
  refine gb_iadd d_X11_run_180 ?_
  refine gb_puti f_X11_506 (fun h => nomatch h) (hS 77 _ rfl) rfl rfl rfl d_X11_run_181 ?_
  have h := gb_let_e h
  generalize gb_pi g21 77 49 ((g21.1 77 49) + 1) = g22 at h ⊢
  refine gb_iconst 0 d_X11_run_184 rfl ?_
  cases h
  exact gb_iret d_X11_run_185 rfl ⟨rfl, rfl, rfl⟩
set_option maxRecDepth 100000 in
set_option maxHeartbeats 4000000 in
theorem t_X11_run_103 {Γ : gb_X} {sh : List gb_Sh} {out : gb_G × Int32} (hS : gb_S sh) : ∀ (g : gb_G) (y1 : Int32), f_X11_run_103 sh g y1 = some out → gb_J Γ M_X11_run 9 (gb_Ri sh out) 0 0 sh g 103 [(0, .ref 77), (1, .int y1)] [] := by
  intro g y1 h
  unfold f_X11_run_103 at h
  refine gb_aload_n d_X11_run_103 rfl ?_
  refine gb_iload_n d_X11_run_104 rfl ?_
  refine gb_iconst 1 d_X11_run_105 rfl ?_
  refine gb_iadd d_X11_run_106 ?_
  obtain ⟨r13, e14, h⟩ := gb_bd_e h
  refine gb_cVi (As := [.int (y1 + 1)]) (rest := []) m_X11_512 (t_X11_sumOf (Γ := Γ) hS e14) (hS 77 _ rfl) rfl (Nat.le_of_ble_eq_true rfl) rfl rfl (Nat.le_of_ble_eq_true rfl) d_X11_run_107 ?_
  refine gb_istore_n [(2, .int r13.2), (0, .ref 77), (1, .int y1)] d_X11_run_110 (Nat.le_of_ble_eq_true rfl) rfl ?_
  refine gb_aload_n d_X11_run_111 rfl ?_
  refine gb_iload_n d_X11_run_112 rfl ?_
  refine gb_iconst 3 d_X11_run_113 rfl ?_
  refine gb_iadd d_X11_run_114 ?_
  obtain ⟨r15, e16, h⟩ := gb_bd_e h
  refine gb_cVi (As := [.int (y1 + 3)]) (rest := []) m_X11_512 (t_X11_sumOf (Γ := Γ) hS e16) (hS 77 _ rfl) rfl (Nat.le_of_ble_eq_true rfl) rfl rfl (Nat.le_of_ble_eq_true rfl) d_X11_run_115 ?_
  refine gb_istore_n [(3, .int r15.2), (2, .int r13.2), (0, .ref 77), (1, .int y1)] d_X11_run_118 (Nat.le_of_ble_eq_true rfl) rfl ?_
  refine gb_aload_n d_X11_run_119 rfl ?_
  refine gb_geti f_X11_503 (hS 77 _ rfl) rfl d_X11_run_120 ?_
  refine gb_if_eq 129 d_X11_run_123 (by decide) (fun hc => ?_) (fun hc => ?_)
  · have h := gb_it hc h
    refine gb_aload_n d_X11_run_129 rfl ?_
    refine gb_aload_n d_X11_run_130 rfl ?_
    refine gb_getr (r := 103) f_X11_133 (hS 77 _ rfl) rfl d_X11_run_131 ?_
    refine gb_iload_n d_X11_run_134 rfl ?_
    obtain ⟨hi17, h⟩ := gb_ck_e h
    refine gb_iald_ y1.toNatClampNeg rfl (hS 103 _ rfl) hi17 d_X11_run_135 ?_
    refine gb_iload_n d_X11_run_136 rfl ?_
    refine gb_iload_n d_X11_run_137 rfl ?_
    obtain ⟨r18, e19, h⟩ := gb_bd_e h
    refine gb_cVi (As := [.int (r15.1.1 103 y1.toNatClampNeg), .int r13.2, .int r15.2]) (rest := []) m_X11_515 (t_X11_act (Γ := Γ) hS e19) (hS 77 _ rfl) rfl (Nat.le_of_ble_eq_true rfl) rfl rfl (Nat.le_of_ble_eq_true rfl) d_X11_run_138 ?_
    refine gb_istore [(4, .int r18.2), (3, .int r15.2), (2, .int r13.2), (0, .ref 77), (1, .int y1)] d_X11_run_141 (Nat.le_of_ble_eq_true rfl) rfl ?_
    refine gb_iload d_X11_run_143 rfl ?_
    refine gb_if_ge 151 d_X11_run_145 (by decide) (fun hc => ?_) (fun hc => ?_)
    · have h := gb_it hc h
      refine gb_aload_n d_X11_run_151 rfl ?_
      refine gb_aload_n d_X11_run_152 rfl ?_
      refine gb_getr (r := 103) f_X11_133 (hS 77 _ rfl) rfl d_X11_run_153 ?_
      refine gb_iload_n d_X11_run_156 rfl ?_
      obtain ⟨hi20, h⟩ := gb_ck_e h
      refine gb_iald_ y1.toNatClampNeg rfl (hS 103 _ rfl) hi20 d_X11_run_157 ?_
      refine gb_iconst 2 d_X11_run_158 rfl ?_
      refine gb_icmp_ne 167 d_X11_run_159 (by decide) (fun hc => ?_) (fun hc => ?_)
      · have h := gb_if hc h
        refine gb_aload_n d_X11_run_167 rfl ?_
        refine gb_geti f_X11_509 (hS 77 _ rfl) rfl d_X11_run_168 ?_
        refine gb_pick (lv' := [(0, .ref 77)]) [3] rfl ?_
        exact t_X11_run_171 hS  _ (r18.1.1 77 50) h
      · have h := gb_it hc h
        refine gb_iload d_X11_run_162 rfl ?_
        refine gb_goto 171 d_X11_run_164 (by decide) ?_
        refine gb_pick (lv' := [(0, .ref 77)]) [3] rfl ?_
        exact t_X11_run_171 hS  _ r18.2 h
    · have h := gb_if hc h
      refine gb_bipush (-3) d_X11_run_148 rfl ?_
      cases h
      exact gb_iret d_X11_run_150 rfl ⟨rfl, rfl, rfl⟩
  · have h := gb_if hc h
    refine gb_bipush (-3) d_X11_run_126 rfl ?_
    cases h
    exact gb_iret d_X11_run_128 rfl ⟨rfl, rfl, rfl⟩
set_option maxRecDepth 100000 in
set_option maxHeartbeats 4000000 in
theorem t_X11_run {Γ : gb_X} {sh : List gb_Sh} {x1 : Int32} {out : gb_G × Int32} (hS : gb_S sh) {g : gb_G} (h : f_X11_run sh g x1 = some out) : gb_C Γ M_X11_run 9 0 0 sh g [.ref 77, .int x1] (gb_Ri sh out) := by
  refine gb_C.of rfl (Nat.le_of_ble_eq_true rfl) ?_
  refine gb_pick (lv' := [(0, .ref 77), (1, .int x1)]) [0, 1] rfl ?_
  unfold f_X11_run at h
  refine gb_aload_n d_X11_run_0 rfl ?_
  refine gb_getr (r := 96) f_X11_104 (hS 77 _ rfl) rfl d_X11_run_1 ?_
  refine gb_iconst 1 d_X11_run_4 rfl ?_
  refine gb_aload_n d_X11_run_5 rfl ?_
  refine gb_getr (r := 79) f_X11_13 (hS 77 _ rfl) rfl d_X11_run_6 ?_
  refine gb_iconst 5 d_X11_run_9 rfl ?_
  refine gb_iald_ 5 rfl (hS 79 _ rfl) (by unfold vp_in; decide) d_X11_run_10 ?_
  refine gb_i2l d_X11_run_11 ?_
  refine gb_last_ 1 rfl (hS 96 _ rfl) (by unfold vp_in; decide) d_X11_run_12 ?_
  have h := gb_let_e h
  generalize gb_pj g 96 1 ((g.1 79 5).toInt64) = g1 at h ⊢
  refine gb_aload_n d_X11_run_13 rfl ?_
  refine gb_getr (r := 96) f_X11_104 (hS 77 _ rfl) rfl d_X11_run_14 ?_
  refine gb_iconst 2 d_X11_run_17 rfl ?_
  refine gb_aload_n d_X11_run_18 rfl ?_
  refine gb_geti f_X11_506 (hS 77 _ rfl) rfl d_X11_run_19 ?_
  refine gb_i2l d_X11_run_22 ?_
  refine gb_last_ 2 rfl (hS 96 _ rfl) (by unfold vp_in; decide) d_X11_run_23 ?_
  have h := gb_let_e h
  generalize gb_pj g1 96 2 ((g1.1 77 49).toInt64) = g2 at h ⊢
  refine gb_aload_n d_X11_run_24 rfl ?_
  refine gb_getr (r := 96) f_X11_104 (hS 77 _ rfl) rfl d_X11_run_25 ?_
  refine gb_iconst 3 d_X11_run_28 rfl ?_
  refine gb_aload_n d_X11_run_29 rfl ?_
  refine gb_geti f_X11_509 (hS 77 _ rfl) rfl d_X11_run_30 ?_
  refine gb_i2l d_X11_run_33 ?_
  refine gb_last_ 3 rfl (hS 96 _ rfl) (by unfold vp_in; decide) d_X11_run_34 ?_
  have h := gb_let_e h
  generalize gb_pj g2 96 3 ((g2.1 77 50).toInt64) = g3 at h ⊢
  refine gb_aload_n d_X11_run_35 rfl ?_
  refine gb_getr (r := 96) f_X11_104 (hS 77 _ rfl) rfl d_X11_run_36 ?_
  refine gb_iconst 4 d_X11_run_39 rfl ?_
  refine gb_aload_n d_X11_run_40 rfl ?_
  obtain ⟨r4, e5, h⟩ := gb_bd_e h
  refine gb_cVi (As := []) (rest := [.int 4, .ref 96]) m_X11_455 (t_X11_pensionNow (Γ := Γ) hS e5) (hS 77 _ rfl) rfl (Nat.le_of_ble_eq_true rfl) rfl rfl (Nat.le_of_ble_eq_true rfl) d_X11_run_41 ?_
  refine gb_i2l d_X11_run_44 ?_
  refine gb_last_ 4 rfl (hS 96 _ rfl) (by unfold vp_in; decide) d_X11_run_45 ?_
  have h := gb_let_e h
  generalize gb_pj r4.1 96 4 r4.2.toInt64 = g6 at h ⊢
  refine gb_aload_n d_X11_run_46 rfl ?_
  refine gb_getr (r := 96) f_X11_104 (hS 77 _ rfl) rfl d_X11_run_47 ?_
  refine gb_iconst 5 d_X11_run_50 rfl ?_
  refine gb_aload_n d_X11_run_51 rfl ?_
  obtain ⟨r7, e8, h⟩ := gb_bd_e h
  refine gb_cVi (As := []) (rest := [.int 5, .ref 96]) m_X11_410 (t_X11_lackingOnes (Γ := Γ) hS e8) (hS 77 _ rfl) rfl (Nat.le_of_ble_eq_true rfl) rfl rfl (Nat.le_of_ble_eq_true rfl) d_X11_run_52 ?_
  refine gb_i2l d_X11_run_55 ?_
  refine gb_last_ 5 rfl (hS 96 _ rfl) (by unfold vp_in; decide) d_X11_run_56 ?_
  have h := gb_let_e h
  generalize gb_pj r7.1 96 5 r7.2.toInt64 = g9 at h ⊢
  refine gb_aload_n d_X11_run_57 rfl ?_
  refine gb_iconst 0 d_X11_run_58 rfl ?_
  refine gb_puti f_X11_503 (fun h => nomatch h) (hS 77 _ rfl) rfl rfl rfl d_X11_run_59 ?_
  have h := gb_let_e h
  generalize gb_pi g9 77 52 0 = g10 at h ⊢
  refine gb_aload_n d_X11_run_62 rfl ?_
  refine gb_getr (r := 103) f_X11_133 (hS 77 _ rfl) rfl d_X11_run_63 ?_
  refine gb_iload_n d_X11_run_66 rfl ?_
  refine gb_iconst 5 d_X11_run_67 rfl ?_
  refine gb_iadd d_X11_run_68 ?_
  obtain ⟨hi11, h⟩ := gb_ck_e h
  refine gb_iald_ ((x1 + 5).toNatClampNeg) rfl (hS 103 _ rfl) hi11 d_X11_run_69 ?_
  refine gb_aload_n d_X11_run_70 rfl ?_
  refine gb_getr (r := 103) f_X11_133 (hS 77 _ rfl) rfl d_X11_run_71 ?_
  refine gb_iload_n d_X11_run_74 rfl ?_
  refine gb_bipush 6 d_X11_run_75 rfl ?_
  refine gb_iadd d_X11_run_77 ?_
  obtain ⟨hi12, h⟩ := gb_ck_e h
  refine gb_iald_ ((x1 + 6).toNatClampNeg) rfl (hS 103 _ rfl) hi12 d_X11_run_78 ?_
  refine gb_icmp_ge 103 d_X11_run_79 (by decide) (fun hc => ?_) (fun hc => ?_)
  · have h := gb_it hc h
    exact t_X11_run_103 hS  _ x1 h
  · have h := gb_if hc h
    refine gb_aload_n d_X11_run_82 rfl ?_
    refine gb_iload_n d_X11_run_83 rfl ?_
    refine gb_iconst 5 d_X11_run_84 rfl ?_
    refine gb_iadd d_X11_run_85 ?_
    obtain ⟨r23, e24, h⟩ := gb_bd_e h
    refine gb_cVi (As := [.int (x1 + 5)]) (rest := []) m_X11_512 (t_X11_sumOf (Γ := Γ) hS e24) (hS 77 _ rfl) rfl (Nat.le_of_ble_eq_true rfl) rfl rfl (Nat.le_of_ble_eq_true rfl) d_X11_run_86 ?_
    refine gb_istore_n [(2, .int r23.2), (0, .ref 77), (1, .int x1)] d_X11_run_89 (Nat.le_of_ble_eq_true rfl) rfl ?_
    refine gb_aload_n d_X11_run_90 rfl ?_
    refine gb_geti f_X11_503 (hS 77 _ rfl) rfl d_X11_run_91 ?_
    refine gb_if_ne 101 d_X11_run_94 (by decide) (fun hc => ?_) (fun hc => ?_)
    · have h := gb_if hc h
      refine gb_iconst 0 d_X11_run_101 rfl ?_
      cases h
      exact gb_iret d_X11_run_102 rfl ⟨rfl, rfl, rfl⟩
    · have h := gb_it hc h
      refine gb_iload_n d_X11_run_97 rfl ?_
      refine gb_if_ne 103 d_X11_run_98 (by decide) (fun hc => ?_) (fun hc => ?_)
      · have h := gb_if hc h
        refine gb_pick (lv' := [(0, .ref 77), (1, .int x1)]) [1, 2] rfl ?_
        exact t_X11_run_103 hS  _ x1 h
      · have h := gb_it hc h
        refine gb_iconst 0 d_X11_run_101 rfl ?_
        cases h
        exact gb_iret d_X11_run_102 rfl ⟨rfl, rfl, rfl⟩
-- X11_giveBack
noncomputable def f_X11_giveBack_35 (sh : List gb_Sh) : Nat → gb_G → Int32 → Int32 → Option (gb_G)
  | 0, _, _, _ => none
  | n + 1, g, y1, y2 => if 16 ≤ y2 then (gb_let (gb_pi g 77 8 y1) (fun g3 => some g3)) else (gb_ck y2 16 (gb_ck y2 16 (gb_let (gb_pi g 83 y2.toNatClampNeg (g.1 85 y2.toNatClampNeg)) (fun g6 => f_X11_giveBack_35 sh n g6 y1 (y2 + 1)))))
noncomputable def f_X11_giveBack_8 (sh : List gb_Sh) : Nat → gb_G → Int32 → Int32 → Option (gb_G)
  | 0, _, _, _ => none
  | n + 1, g, y1, y2 => if 432 ≤ y2 then (f_X11_giveBack_35 sh gb_N g y1 0) else (gb_ck y2 432 (gb_ck y2 486 (gb_let (gb_pi g 82 y2.toNatClampNeg (g.1 84 y2.toNatClampNeg)) (fun g9 => f_X11_giveBack_8 sh n g9 y1 (y2 + 1)))))
noncomputable def f_X11_giveBack (sh : List gb_Sh) (g : gb_G) (x1 : Int32) : Option (gb_G) := gb_bd (f_X11_putBack sh g 17) (fun r1 => f_X11_giveBack_8 sh gb_N r1 x1 0)
set_option maxRecDepth 100000 in
set_option maxHeartbeats 4000000 in
theorem t_X11_giveBack_35 {Γ : gb_X} {sh : List gb_Sh} {out : gb_G} (hS : gb_S sh) : ∀ (n : Nat) (g : gb_G) (y1 : Int32) (y2 : Int32), f_X11_giveBack_35 sh n g y1 y2 = some out → gb_J Γ M_X11_giveBack 1 (gb_Rv sh out) 0 0 sh g 35 [(0, .ref 77), (1, .int y1), (2, .int y2)] [] := by
  intro n
  induction n with
  | zero => intro g y1 y2 h; cases h
  | succ n ih =>
    intro g y1 y2 h
    rw [f_X11_giveBack_35] at h
    refine gb_iload_n d_X11_giveBack_35 rfl ?_
    refine gb_bipush 16 d_X11_giveBack_36 rfl ?_
    refine gb_icmp_ge 59 d_X11_giveBack_38 (by decide) (fun hc => ?_) (fun hc => ?_)
    · have h := gb_it hc h
      refine gb_aload_n d_X11_giveBack_59 rfl ?_
      refine gb_iload_n d_X11_giveBack_60 rfl ?_
      refine gb_puti f_X11_151 (fun h => nomatch h) (hS 77 _ rfl) rfl rfl rfl d_X11_giveBack_61 ?_
      have h := gb_let_e h
      generalize gb_pi g 77 8 y1 = g3 at h ⊢
      cases h
      exact gb_vret d_X11_giveBack_64 rfl ⟨rfl, rfl, rfl⟩
    · have h := gb_if hc h
      refine gb_aload_n d_X11_giveBack_41 rfl ?_
      refine gb_getr (r := 83) f_X11_26 (hS 77 _ rfl) rfl d_X11_giveBack_42 ?_
      refine gb_iload_n d_X11_giveBack_45 rfl ?_
      refine gb_aload_n d_X11_giveBack_46 rfl ?_
      refine gb_getr (r := 85) f_X11_32 (hS 77 _ rfl) rfl d_X11_giveBack_47 ?_
      refine gb_iload_n d_X11_giveBack_50 rfl ?_
      obtain ⟨hi4, h⟩ := gb_ck_e h
      refine gb_iald_ y2.toNatClampNeg rfl (hS 85 _ rfl) hi4 d_X11_giveBack_51 ?_
      obtain ⟨hi5, h⟩ := gb_ck_e h
      refine gb_iast_ y2.toNatClampNeg rfl (hS 83 _ rfl) hi5 d_X11_giveBack_52 ?_
      have h := gb_let_e h
      generalize gb_pi g 83 y2.toNatClampNeg (g.1 85 y2.toNatClampNeg) = g6 at h ⊢
      refine gb_iinc (y2 + 1) [(2, .int (y2 + 1)), (0, .ref 77), (1, .int y1)] d_X11_giveBack_53 (Nat.le_of_ble_eq_true rfl) rfl rfl rfl ?_
      refine gb_goto 35 d_X11_giveBack_56 (by decide) ?_
      refine gb_pick (lv' := [(0, .ref 77), (1, .int y1), (2, .int (y2 + 1))]) [1, 2, 0] rfl ?_
      exact ih _ y1 (y2 + 1) h
set_option maxRecDepth 100000 in
set_option maxHeartbeats 4000000 in
theorem t_X11_giveBack_8 {Γ : gb_X} {sh : List gb_Sh} {out : gb_G} (hS : gb_S sh) : ∀ (n : Nat) (g : gb_G) (y1 : Int32) (y2 : Int32), f_X11_giveBack_8 sh n g y1 y2 = some out → gb_J Γ M_X11_giveBack 1 (gb_Rv sh out) 0 0 sh g 8 [(0, .ref 77), (1, .int y1), (2, .int y2)] [] := by
  intro n
  induction n with
  | zero => intro g y1 y2 h; cases h
  | succ n ih =>
    intro g y1 y2 h
    rw [f_X11_giveBack_8] at h
    refine gb_iload_n d_X11_giveBack_8 rfl ?_
    refine gb_sipush 432 d_X11_giveBack_9 rfl ?_
    refine gb_icmp_ge 33 d_X11_giveBack_12 (by decide) (fun hc => ?_) (fun hc => ?_)
    · have h := gb_it hc h
      refine gb_iconst 0 d_X11_giveBack_33 rfl ?_
      refine gb_istore_n [(2, .int 0), (0, .ref 77), (1, .int y1)] d_X11_giveBack_34 (Nat.le_of_ble_eq_true rfl) rfl ?_
      refine gb_pick (lv' := [(0, .ref 77), (1, .int y1), (2, .int 0)]) [1, 2, 0] rfl ?_
      exact t_X11_giveBack_35 hS  gb_N _ y1 0 h
    · have h := gb_if hc h
      refine gb_aload_n d_X11_giveBack_15 rfl ?_
      refine gb_getr (r := 82) f_X11_23 (hS 77 _ rfl) rfl d_X11_giveBack_16 ?_
      refine gb_iload_n d_X11_giveBack_19 rfl ?_
      refine gb_aload_n d_X11_giveBack_20 rfl ?_
      refine gb_getr (r := 84) f_X11_29 (hS 77 _ rfl) rfl d_X11_giveBack_21 ?_
      refine gb_iload_n d_X11_giveBack_24 rfl ?_
      obtain ⟨hi7, h⟩ := gb_ck_e h
      refine gb_iald_ y2.toNatClampNeg rfl (hS 84 _ rfl) hi7 d_X11_giveBack_25 ?_
      obtain ⟨hi8, h⟩ := gb_ck_e h
      refine gb_iast_ y2.toNatClampNeg rfl (hS 82 _ rfl) hi8 d_X11_giveBack_26 ?_
      have h := gb_let_e h
      generalize gb_pi g 82 y2.toNatClampNeg (g.1 84 y2.toNatClampNeg) = g9 at h ⊢
      refine gb_iinc (y2 + 1) [(2, .int (y2 + 1)), (0, .ref 77), (1, .int y1)] d_X11_giveBack_27 (Nat.le_of_ble_eq_true rfl) rfl rfl rfl ?_
      refine gb_goto 8 d_X11_giveBack_30 (by decide) ?_
      refine gb_pick (lv' := [(0, .ref 77), (1, .int y1), (2, .int (y2 + 1))]) [1, 2, 0] rfl ?_
      exact ih _ y1 (y2 + 1) h
set_option maxRecDepth 100000 in
set_option maxHeartbeats 4000000 in
theorem t_X11_giveBack {Γ : gb_X} {sh : List gb_Sh} {x1 : Int32} {out : gb_G} (hS : gb_S sh) {g : gb_G} (h : f_X11_giveBack sh g x1 = some out) : gb_C Γ M_X11_giveBack 1 0 0 sh g [.ref 77, .int x1] (gb_Rv sh out) := by
  refine gb_C.of rfl (Nat.le_of_ble_eq_true rfl) ?_
  refine gb_pick (lv' := [(0, .ref 77), (1, .int x1)]) [0, 1] rfl ?_
  unfold f_X11_giveBack at h
  refine gb_aload_n d_X11_giveBack_0 rfl ?_
  refine gb_bipush 17 d_X11_giveBack_1 rfl ?_
  obtain ⟨r1, e2, h⟩ := gb_bd_e h
  refine gb_cVv (As := [.int 17]) (rest := []) m_X11_162 (t_X11_putBack (Γ := Γ) hS e2) (hS 77 _ rfl) rfl (Nat.le_of_ble_eq_true rfl) rfl rfl (Nat.le_of_ble_eq_true rfl) d_X11_giveBack_3 ?_
  refine gb_iconst 0 d_X11_giveBack_6 rfl ?_
  refine gb_istore_n [(2, .int 0), (0, .ref 77), (1, .int x1)] d_X11_giveBack_7 (Nat.le_of_ble_eq_true rfl) rfl ?_
  refine gb_pick (lv' := [(0, .ref 77), (1, .int x1), (2, .int 0)]) [1, 2, 0] rfl ?_
  exact t_X11_giveBack_8 hS  gb_N _ x1 0 h
-- X11_orders
noncomputable def f_X11_orders_150 (sh : List gb_Sh) (K140 : gb_G → Int32 → Int32 → Option (gb_G × Int32)) : Nat → gb_G → Int32 → Int32 → Int32 → Option (gb_G × Int32)
  | 0, _, _, _, _ => none
  | n + 1, g, y1, y2, y3 => gb_ck ((8 * y2) + 7) 96 (if (g.1 103 (((8 * y2) + 7).toNatClampNeg)) ≤ y3 then (K140 g y1 (y2 + 1)) else (gb_bd (f_X11_run sh g (8 * y2)) (fun r16 => if 0 ≤ r16.2 then (f_X11_orders_150 sh K140 n r16.1 y1 y2 (y3 + 1)) else (gb_bd (f_X11_giveBack sh r16.1 y1) (fun r18 => gb_let (gb_pi r18 77 51 y2) (fun g20 => gb_bd (f_X11_tell sh g20 (-3)) (fun r21 => some (r21.1, r21.2))))))))
noncomputable def f_X11_orders_140 (sh : List gb_Sh) : Nat → gb_G → Int32 → Int32 → Option (gb_G × Int32)
  | 0, _, _, _ => none
  | n + 1, g, y1, y2 => if (g.1 77 21) ≤ y2 then (gb_bd (f_X11_tell sh g (g.1 77 49)) (fun r13 => some (r13.1, r13.2))) else (f_X11_orders_150 sh (fun w w0 w1 => f_X11_orders_140 sh n w w0 w1) gb_N g y1 y2 0)
noncomputable def f_X11_orders_104 (sh : List gb_Sh) : Nat → gb_G → Int32 → Int32 → Option (gb_G × Int32)
  | 0, _, _, _ => none
  | n + 1, g, y1, y2 => if 16 ≤ y2 then (gb_let (gb_pi g 77 49 0) (fun g11 => gb_let (gb_pi g11 77 50 (-1)) (fun g12 => f_X11_orders_140 sh gb_N g12 y1 0))) else (gb_ck y2 16 (gb_ck y2 16 (gb_let (gb_pi g 85 y2.toNatClampNeg (g.1 83 y2.toNatClampNeg)) (fun g25 => f_X11_orders_104 sh n g25 y1 (y2 + 1)))))
noncomputable def f_X11_orders_77 (sh : List gb_Sh) : Nat → gb_G → Int32 → Int32 → Option (gb_G × Int32)
  | 0, _, _, _ => none
  | n + 1, g, y1, y2 => if 432 ≤ y2 then (f_X11_orders_104 sh gb_N g y1 0) else (gb_ck y2 486 (gb_ck y2 432 (gb_let (gb_pi g 84 y2.toNatClampNeg (g.1 82 y2.toNatClampNeg)) (fun g28 => f_X11_orders_77 sh n g28 y1 (y2 + 1)))))
noncomputable def f_X11_orders_46 (sh : List gb_Sh) (g : gb_G)  : Option (gb_G × Int32) := gb_bd (f_X11_endText sh g) (fun r7 => if (r7.1 77 19) = 0 then (gb_bd (f_X11_keepAll sh r7 17) (fun r9 => f_X11_orders_77 sh gb_N r9 (r9.1 77 8) 0)) else (gb_bd (f_X11_tell sh r7 (-6)) (fun r29 => some (r29.1, r29.2))))
noncomputable def f_X11_orders_19 (sh : List gb_Sh) : Nat → gb_G → Option (gb_G × Int32)
  | 0, _ => none
  | n + 1, g => if (g.1 77 19) = 0 then (gb_bd (f_X11_isSign sh g 59) (fun r31 => if r31.2 = 0 then (f_X11_orders_46 sh r31.1 ) else (gb_bd (f_X11_next sh r31.1) (fun r33 => gb_bd (f_X11_readOrder sh r33) (fun r35 => f_X11_orders_19 sh n r35 ))))) else (f_X11_orders_46 sh g )
noncomputable def f_X11_orders (sh : List gb_Sh) (g : gb_G) : Option (gb_G × Int32) := gb_let (gb_pi g 77 0 0) (fun g1 => gb_let (gb_pi g1 77 51 (-1)) (fun g2 => gb_bd (f_X11_beginText sh g2 1) (fun r3 => gb_bd (f_X11_readOrder sh r3) (fun r5 => f_X11_orders_19 sh gb_N r5 ))))
set_option maxRecDepth 100000 in
set_option maxHeartbeats 4000000 in
theorem t_X11_orders_150 {Γ : gb_X} {sh : List gb_Sh} {out : gb_G × Int32} (hS : gb_S sh) {K140 : gb_G → Int32 → Int32 → Option (gb_G × Int32)} (hK140 : ∀ (g : gb_G) (y1 : Int32) (y2 : Int32), K140 g y1 y2 = some out → gb_J Γ M_X11_orders 10 (gb_Ri sh out) 0 0 sh g 140 [(0, .ref 77), (1, .int y1), (2, .int y2)] []) : ∀ (n : Nat) (g : gb_G) (y1 : Int32) (y2 : Int32) (y3 : Int32), f_X11_orders_150 sh K140 n g y1 y2 y3 = some out → gb_J Γ M_X11_orders 10 (gb_Ri sh out) 0 0 sh g 150 [(0, .ref 77), (1, .int y1), (2, .int y2), (3, .int y3)] [] := by
  intro n
  induction n with
  | zero => intro g y1 y2 y3 h; cases h
  | succ n ih =>
    intro g y1 y2 y3 h
    rw [f_X11_orders_150] at h
    refine gb_iload_n d_X11_orders_150 rfl ?_
    refine gb_aload_n d_X11_orders_151 rfl ?_
    refine gb_getr (r := 103) f_X11_133 (hS 77 _ rfl) rfl d_X11_orders_152 ?_
    refine gb_bipush 8 d_X11_orders_155 rfl ?_
    refine gb_iload_n d_X11_orders_157 rfl ?_
    refine gb_imul d_X11_orders_158 ?_
    refine gb_bipush 7 d_X11_orders_159 rfl ?_
    refine gb_iadd d_X11_orders_161 ?_
    obtain ⟨hi15, h⟩ := gb_ck_e h
    refine gb_iald_ (((8 * y2) + 7).toNatClampNeg) rfl (hS 103 _ rfl) hi15 d_X11_orders_162 ?_
    refine gb_icmp_ge 200 d_X11_orders_163 (by decide) (fun hc => ?_) (fun hc => ?_)
    · have h := gb_it hc h
      refine gb_iinc (y2 + 1) [(2, .int (y2 + 1)), (0, .ref 77), (1, .int y1), (3, .int y3)] d_X11_orders_200 (Nat.le_of_ble_eq_true rfl) rfl rfl rfl ?_
      refine gb_goto 140 d_X11_orders_203 (by decide) ?_
      refine gb_pick (lv' := [(0, .ref 77), (1, .int y1), (2, .int (y2 + 1))]) [1, 2, 0] rfl ?_
      exact hK140 _ y1 (y2 + 1) h
    · have h := gb_if hc h
      refine gb_aload_n d_X11_orders_166 rfl ?_
      refine gb_bipush 8 d_X11_orders_167 rfl ?_
      refine gb_iload_n d_X11_orders_169 rfl ?_
      refine gb_imul d_X11_orders_170 ?_
      obtain ⟨r16, e17, h⟩ := gb_bd_e h
      refine gb_cVi (As := [.int (8 * y2)]) (rest := []) m_X11_521 (t_X11_run (Γ := Γ) hS e17) (hS 77 _ rfl) rfl (Nat.le_of_ble_eq_true rfl) rfl rfl (Nat.le_of_ble_eq_true rfl) d_X11_orders_171 ?_
      refine gb_if_ge 194 d_X11_orders_174 (by decide) (fun hc => ?_) (fun hc => ?_)
      · have h := gb_it hc h
        refine gb_iinc (y3 + 1) [(3, .int (y3 + 1)), (0, .ref 77), (1, .int y1), (2, .int y2)] d_X11_orders_194 (Nat.le_of_ble_eq_true rfl) rfl rfl rfl ?_
        refine gb_goto 150 d_X11_orders_197 (by decide) ?_
        refine gb_pick (lv' := [(0, .ref 77), (1, .int y1), (2, .int y2), (3, .int (y3 + 1))]) [1, 2, 3, 0] rfl ?_
        exact ih _ y1 y2 (y3 + 1) h
      · have h := gb_if hc h
        refine gb_aload_n d_X11_orders_177 rfl ?_
        refine gb_iload_n d_X11_orders_178 rfl ?_
        obtain ⟨r18, e19, h⟩ := gb_bd_e h
        refine gb_cVv (As := [.int y1]) (rest := []) m_X11_524 (t_X11_giveBack (Γ := Γ) hS e19) (hS 77 _ rfl) rfl (Nat.le_of_ble_eq_true rfl) rfl rfl (Nat.le_of_ble_eq_true rfl) d_X11_orders_179 ?_
        refine gb_aload_n d_X11_orders_182 rfl ?_
        refine gb_iload_n d_X11_orders_183 rfl ?_
        refine gb_puti f_X11_136 (fun h => nomatch h) (hS 77 _ rfl) rfl rfl rfl d_X11_orders_184 ?_
        have h := gb_let_e h
        generalize gb_pi r18 77 51 y2 = g20 at h ⊢
        refine gb_aload_n d_X11_orders_187 rfl ?_
        refine gb_bipush (-3) d_X11_orders_188 rfl ?_
        obtain ⟨r21, e22, h⟩ := gb_bd_e h
        refine gb_cVi (As := [.int (-3)]) (rest := []) m_X11_154 (t_X11_tell (Γ := Γ) hS e22) (hS 77 _ rfl) rfl (Nat.le_of_ble_eq_true rfl) rfl rfl (Nat.le_of_ble_eq_true rfl) d_X11_orders_190 ?_
        cases h
        exact gb_iret d_X11_orders_193 rfl ⟨rfl, rfl, rfl⟩
set_option maxRecDepth 100000 in
set_option maxHeartbeats 4000000 in
theorem t_X11_orders_140 {Γ : gb_X} {sh : List gb_Sh} {out : gb_G × Int32} (hS : gb_S sh) : ∀ (n : Nat) (g : gb_G) (y1 : Int32) (y2 : Int32), f_X11_orders_140 sh n g y1 y2 = some out → gb_J Γ M_X11_orders 10 (gb_Ri sh out) 0 0 sh g 140 [(0, .ref 77), (1, .int y1), (2, .int y2)] [] := by
  intro n
  induction n with
  | zero => intro g y1 y2 h; cases h
  | succ n ih =>
    intro g y1 y2 h
    rw [f_X11_orders_140] at h
    refine gb_iload_n d_X11_orders_140 rfl ?_
    refine gb_aload_n d_X11_orders_141 rfl ?_
    refine gb_geti f_X11_353 (hS 77 _ rfl) rfl d_X11_orders_142 ?_
    refine gb_icmp_ge 206 d_X11_orders_145 (by decide) (fun hc => ?_) (fun hc => ?_)
    · have h := gb_it hc h
      refine gb_aload_n d_X11_orders_206 rfl ?_
      refine gb_aload_n d_X11_orders_207 rfl ?_
      refine gb_geti f_X11_506 (hS 77 _ rfl) rfl d_X11_orders_208 ?_
      obtain ⟨r13, e14, h⟩ := gb_bd_e h
      refine gb_cVi (As := [.int (g.1 77 49)]) (rest := []) m_X11_154 (t_X11_tell (Γ := Γ) hS e14) (hS 77 _ rfl) rfl (Nat.le_of_ble_eq_true rfl) rfl rfl (Nat.le_of_ble_eq_true rfl) d_X11_orders_211 ?_
      cases h
      exact gb_iret d_X11_orders_214 rfl ⟨rfl, rfl, rfl⟩
    · have h := gb_if hc h
      refine gb_iconst 0 d_X11_orders_148 rfl ?_
      refine gb_istore_n [(3, .int 0), (0, .ref 77), (1, .int y1), (2, .int y2)] d_X11_orders_149 (Nat.le_of_ble_eq_true rfl) rfl ?_
      refine gb_pick (lv' := [(0, .ref 77), (1, .int y1), (2, .int y2), (3, .int 0)]) [1, 2, 3, 0] rfl ?_
      exact t_X11_orders_150 hS (fun w w0 w1 hw => ih w w0 w1 hw) gb_N _ y1 y2 0 h
set_option maxRecDepth 100000 in
set_option maxHeartbeats 4000000 in
theorem t_X11_orders_104 {Γ : gb_X} {sh : List gb_Sh} {out : gb_G × Int32} (hS : gb_S sh) : ∀ (n : Nat) (g : gb_G) (y1 : Int32) (y2 : Int32), f_X11_orders_104 sh n g y1 y2 = some out → gb_J Γ M_X11_orders 10 (gb_Ri sh out) 0 0 sh g 104 [(0, .ref 77), (1, .int y1), (2, .int y2)] [] := by
  intro n
  induction n with
  | zero => intro g y1 y2 h; cases h
  | succ n ih =>
    intro g y1 y2 h
    rw [f_X11_orders_104] at h
    refine gb_iload_n d_X11_orders_104 rfl ?_
    refine gb_bipush 16 d_X11_orders_105 rfl ?_
    refine gb_icmp_ge 128 d_X11_orders_107 (by decide) (fun hc => ?_) (fun hc => ?_)
    · have h := gb_it hc h
      refine gb_aload_n d_X11_orders_128 rfl ?_
      refine gb_iconst 0 d_X11_orders_129 rfl ?_
      refine gb_puti f_X11_506 (fun h => nomatch h) (hS 77 _ rfl) rfl rfl rfl d_X11_orders_130 ?_
      have h := gb_let_e h
      generalize gb_pi g 77 49 0 = g11 at h ⊢
      refine gb_aload_n d_X11_orders_133 rfl ?_
      refine gb_iconst (-1) d_X11_orders_134 rfl ?_
      refine gb_puti f_X11_509 (fun h => nomatch h) (hS 77 _ rfl) rfl rfl rfl d_X11_orders_135 ?_
      have h := gb_let_e h
      generalize gb_pi g11 77 50 (-1) = g12 at h ⊢
      refine gb_iconst 0 d_X11_orders_138 rfl ?_
      refine gb_istore_n [(2, .int 0), (0, .ref 77), (1, .int y1)] d_X11_orders_139 (Nat.le_of_ble_eq_true rfl) rfl ?_
      refine gb_pick (lv' := [(0, .ref 77), (1, .int y1), (2, .int 0)]) [1, 2, 0] rfl ?_
      exact t_X11_orders_140 hS  gb_N _ y1 0 h
    · have h := gb_if hc h
      refine gb_aload_n d_X11_orders_110 rfl ?_
      refine gb_getr (r := 85) f_X11_32 (hS 77 _ rfl) rfl d_X11_orders_111 ?_
      refine gb_iload_n d_X11_orders_114 rfl ?_
      refine gb_aload_n d_X11_orders_115 rfl ?_
      refine gb_getr (r := 83) f_X11_26 (hS 77 _ rfl) rfl d_X11_orders_116 ?_
      refine gb_iload_n d_X11_orders_119 rfl ?_
      obtain ⟨hi23, h⟩ := gb_ck_e h
      refine gb_iald_ y2.toNatClampNeg rfl (hS 83 _ rfl) hi23 d_X11_orders_120 ?_
      obtain ⟨hi24, h⟩ := gb_ck_e h
      refine gb_iast_ y2.toNatClampNeg rfl (hS 85 _ rfl) hi24 d_X11_orders_121 ?_
      have h := gb_let_e h
      generalize gb_pi g 85 y2.toNatClampNeg (g.1 83 y2.toNatClampNeg) = g25 at h ⊢
      refine gb_iinc (y2 + 1) [(2, .int (y2 + 1)), (0, .ref 77), (1, .int y1)] d_X11_orders_122 (Nat.le_of_ble_eq_true rfl) rfl rfl rfl ?_
      refine gb_goto 104 d_X11_orders_125 (by decide) ?_
      refine gb_pick (lv' := [(0, .ref 77), (1, .int y1), (2, .int (y2 + 1))]) [1, 2, 0] rfl ?_
      exact ih _ y1 (y2 + 1) h
set_option maxRecDepth 100000 in
set_option maxHeartbeats 4000000 in
theorem t_X11_orders_77 {Γ : gb_X} {sh : List gb_Sh} {out : gb_G × Int32} (hS : gb_S sh) : ∀ (n : Nat) (g : gb_G) (y1 : Int32) (y2 : Int32), f_X11_orders_77 sh n g y1 y2 = some out → gb_J Γ M_X11_orders 10 (gb_Ri sh out) 0 0 sh g 77 [(0, .ref 77), (1, .int y1), (2, .int y2)] [] := by
  intro n
  induction n with
  | zero => intro g y1 y2 h; cases h
  | succ n ih =>
    intro g y1 y2 h
    rw [f_X11_orders_77] at h
    refine gb_iload_n d_X11_orders_77 rfl ?_
    refine gb_sipush 432 d_X11_orders_78 rfl ?_
    refine gb_icmp_ge 102 d_X11_orders_81 (by decide) (fun hc => ?_) (fun hc => ?_)
    · have h := gb_it hc h
      refine gb_iconst 0 d_X11_orders_102 rfl ?_
      refine gb_istore_n [(2, .int 0), (0, .ref 77), (1, .int y1)] d_X11_orders_103 (Nat.le_of_ble_eq_true rfl) rfl ?_
      refine gb_pick (lv' := [(0, .ref 77), (1, .int y1), (2, .int 0)]) [1, 2, 0] rfl ?_
      exact t_X11_orders_104 hS  gb_N _ y1 0 h
    · have h := gb_if hc h
      refine gb_aload_n d_X11_orders_84 rfl ?_
      refine gb_getr (r := 84) f_X11_29 (hS 77 _ rfl) rfl d_X11_orders_85 ?_
      refine gb_iload_n d_X11_orders_88 rfl ?_
      refine gb_aload_n d_X11_orders_89 rfl ?_
      refine gb_getr (r := 82) f_X11_23 (hS 77 _ rfl) rfl d_X11_orders_90 ?_
      refine gb_iload_n d_X11_orders_93 rfl ?_
      obtain ⟨hi26, h⟩ := gb_ck_e h
      refine gb_iald_ y2.toNatClampNeg rfl (hS 82 _ rfl) hi26 d_X11_orders_94 ?_
      obtain ⟨hi27, h⟩ := gb_ck_e h
      refine gb_iast_ y2.toNatClampNeg rfl (hS 84 _ rfl) hi27 d_X11_orders_95 ?_
      have h := gb_let_e h
      generalize gb_pi g 84 y2.toNatClampNeg (g.1 82 y2.toNatClampNeg) = g28 at h ⊢
      refine gb_iinc (y2 + 1) [(2, .int (y2 + 1)), (0, .ref 77), (1, .int y1)] d_X11_orders_96 (Nat.le_of_ble_eq_true rfl) rfl rfl rfl ?_
      refine gb_goto 77 d_X11_orders_99 (by decide) ?_
      refine gb_pick (lv' := [(0, .ref 77), (1, .int y1), (2, .int (y2 + 1))]) [1, 2, 0] rfl ?_
      exact ih _ y1 (y2 + 1) h
set_option maxRecDepth 100000 in
set_option maxHeartbeats 4000000 in
theorem t_X11_orders_46 {Γ : gb_X} {sh : List gb_Sh} {out : gb_G × Int32} (hS : gb_S sh) : ∀ (g : gb_G) , f_X11_orders_46 sh g  = some out → gb_J Γ M_X11_orders 10 (gb_Ri sh out) 0 0 sh g 46 [(0, .ref 77)] [] := by
  intro g  h
  unfold f_X11_orders_46 at h
  refine gb_aload_n d_X11_orders_46 rfl ?_
  obtain ⟨r7, e8, h⟩ := gb_bd_e h
  refine gb_cVv (As := []) (rest := []) m_X11_367 (t_X11_endText (Γ := Γ) hS e8) (hS 77 _ rfl) rfl (Nat.le_of_ble_eq_true rfl) rfl rfl (Nat.le_of_ble_eq_true rfl) d_X11_orders_47 ?_
  refine gb_aload_n d_X11_orders_50 rfl ?_
  refine gb_geti f_X11_224 (hS 77 _ rfl) rfl d_X11_orders_51 ?_
  refine gb_if_eq 64 d_X11_orders_54 (by decide) (fun hc => ?_) (fun hc => ?_)
  · have h := gb_it hc h
    refine gb_aload_n d_X11_orders_64 rfl ?_
    refine gb_bipush 17 d_X11_orders_65 rfl ?_
    obtain ⟨r9, e10, h⟩ := gb_bd_e h
    refine gb_cVv (As := [.int 17]) (rest := []) m_X11_158 (t_X11_keepAll (Γ := Γ) hS e10) (hS 77 _ rfl) rfl (Nat.le_of_ble_eq_true rfl) rfl rfl (Nat.le_of_ble_eq_true rfl) d_X11_orders_67 ?_
    refine gb_aload_n d_X11_orders_70 rfl ?_
    refine gb_geti f_X11_151 (hS 77 _ rfl) rfl d_X11_orders_71 ?_
    refine gb_istore_n [(1, .int (r9.1 77 8)), (0, .ref 77)] d_X11_orders_74 (Nat.le_of_ble_eq_true rfl) rfl ?_
    refine gb_iconst 0 d_X11_orders_75 rfl ?_
    refine gb_istore_n [(2, .int 0), (1, .int (r9.1 77 8)), (0, .ref 77)] d_X11_orders_76 (Nat.le_of_ble_eq_true rfl) rfl ?_
    refine gb_pick (lv' := [(0, .ref 77), (1, .int (r9.1 77 8)), (2, .int 0)]) [2, 1, 0] rfl ?_
    exact t_X11_orders_77 hS  gb_N _ (r9.1 77 8) 0 h
  · have h := gb_if hc h
    refine gb_aload_n d_X11_orders_57 rfl ?_
    refine gb_bipush (-6) d_X11_orders_58 rfl ?_
    obtain ⟨r29, e30, h⟩ := gb_bd_e h
    refine gb_cVi (As := [.int (-6)]) (rest := []) m_X11_154 (t_X11_tell (Γ := Γ) hS e30) (hS 77 _ rfl) rfl (Nat.le_of_ble_eq_true rfl) rfl rfl (Nat.le_of_ble_eq_true rfl) d_X11_orders_60 ?_
    cases h
    exact gb_iret d_X11_orders_63 rfl ⟨rfl, rfl, rfl⟩
set_option maxRecDepth 100000 in
set_option maxHeartbeats 4000000 in
theorem t_X11_orders_19 {Γ : gb_X} {sh : List gb_Sh} {out : gb_G × Int32} (hS : gb_S sh) : ∀ (n : Nat) (g : gb_G) , f_X11_orders_19 sh n g  = some out → gb_J Γ M_X11_orders 10 (gb_Ri sh out) 0 0 sh g 19 [(0, .ref 77)] [] := by
  intro n
  induction n with
  | zero => intro g  h; cases h
  | succ n ih =>
    intro g  h
    rw [f_X11_orders_19] at h
    refine gb_aload_n d_X11_orders_19 rfl ?_
    refine gb_geti f_X11_224 (hS 77 _ rfl) rfl d_X11_orders_20 ?_
    refine gb_if_ne 46 d_X11_orders_23 (by decide) (fun hc => ?_) (fun hc => ?_)
    · have h := gb_if hc h
      exact t_X11_orders_46 hS  _  h
    · have h := gb_it hc h
      refine gb_aload_n d_X11_orders_26 rfl ?_
      refine gb_bipush 59 d_X11_orders_27 rfl ?_
      obtain ⟨r31, e32, h⟩ := gb_bd_e h
      refine gb_cVi (As := [.int 59]) (rest := []) m_X11_293 (t_X11_isSign (Γ := Γ) hS e32) (hS 77 _ rfl) rfl (Nat.le_of_ble_eq_true rfl) rfl rfl (Nat.le_of_ble_eq_true rfl) d_X11_orders_29 ?_
      refine gb_if_eq 46 d_X11_orders_32 (by decide) (fun hc => ?_) (fun hc => ?_)
      · have h := gb_it hc h
        exact t_X11_orders_46 hS  _  h
      · have h := gb_if hc h
        refine gb_aload_n d_X11_orders_35 rfl ?_
        obtain ⟨r33, e34, h⟩ := gb_bd_e h
        refine gb_cVv (As := []) (rest := []) m_X11_228 (t_X11_next (Γ := Γ) hS e34) (hS 77 _ rfl) rfl (Nat.le_of_ble_eq_true rfl) rfl rfl (Nat.le_of_ble_eq_true rfl) d_X11_orders_36 ?_
        refine gb_aload_n d_X11_orders_39 rfl ?_
        obtain ⟨r35, e36, h⟩ := gb_bd_e h
        refine gb_cVv (As := []) (rest := []) m_X11_518 (t_X11_readOrder (Γ := Γ) hS e36) (hS 77 _ rfl) rfl (Nat.le_of_ble_eq_true rfl) rfl rfl (Nat.le_of_ble_eq_true rfl) d_X11_orders_40 ?_
        refine gb_goto 19 d_X11_orders_43 (by decide) ?_
        exact ih _  h
set_option maxRecDepth 100000 in
set_option maxHeartbeats 4000000 in
theorem t_X11_orders {Γ : gb_X} {sh : List gb_Sh} {out : gb_G × Int32} (hS : gb_S sh) {g : gb_G} (h : f_X11_orders sh g = some out) : gb_C Γ M_X11_orders 10 0 0 sh g [.ref 77] (gb_Ri sh out) := by
  refine gb_C.of rfl (Nat.le_of_ble_eq_true rfl) ?_
  refine gb_pick (lv' := [(0, .ref 77)]) [0] rfl ?_
  unfold f_X11_orders at h
  refine gb_aload_n d_X11_orders_0 rfl ?_
  refine gb_iconst 0 d_X11_orders_1 rfl ?_
  refine gb_puti f_X11_145 (fun h => nomatch h) (hS 77 _ rfl) rfl rfl rfl d_X11_orders_2 ?_
  have h := gb_let_e h
  generalize gb_pi g 77 0 0 = g1 at h ⊢
  refine gb_aload_n d_X11_orders_5 rfl ?_
  refine gb_iconst (-1) d_X11_orders_6 rfl ?_
  refine gb_puti f_X11_136 (fun h => nomatch h) (hS 77 _ rfl) rfl rfl rfl d_X11_orders_7 ?_
  have h := gb_let_e h
  generalize gb_pi g1 77 51 (-1) = g2 at h ⊢
  refine gb_aload_n d_X11_orders_10 rfl ?_
  refine gb_iconst 1 d_X11_orders_11 rfl ?_
  obtain ⟨r3, e4, h⟩ := gb_bd_e h
  refine gb_cVv (As := [.int 1]) (rest := []) m_X11_361 (t_X11_beginText (Γ := Γ) hS e4) (hS 77 _ rfl) rfl (Nat.le_of_ble_eq_true rfl) rfl rfl (Nat.le_of_ble_eq_true rfl) d_X11_orders_12 ?_
  refine gb_aload_n d_X11_orders_15 rfl ?_
  obtain ⟨r5, e6, h⟩ := gb_bd_e h
  refine gb_cVv (As := []) (rest := []) m_X11_518 (t_X11_readOrder (Γ := Γ) hS e6) (hS 77 _ rfl) rfl (Nat.le_of_ble_eq_true rfl) rfl rfl (Nat.le_of_ble_eq_true rfl) d_X11_orders_16 ?_
  exact t_X11_orders_19 hS  gb_N _  h
-- X11_stopped
noncomputable def f_X11_stopped (sh : List gb_Sh) (g : gb_G) : Option (gb_G × Int32) := gb_let (gb_pi g 77 0 0) (fun g1 => some (g1, (g1.1 77 51)))
set_option maxRecDepth 100000 in
set_option maxHeartbeats 4000000 in
theorem t_X11_stopped {Γ : gb_X} {sh : List gb_Sh} {out : gb_G × Int32} (hS : gb_S sh) {g : gb_G} (h : f_X11_stopped sh g = some out) : gb_C Γ M_X11_stopped 0 0 0 sh g [.ref 77] (gb_Ri sh out) := by
  refine gb_C.of rfl (Nat.le_of_ble_eq_true rfl) ?_
  refine gb_pick (lv' := [(0, .ref 77)]) [0] rfl ?_
  unfold f_X11_stopped at h
  refine gb_aload_n d_X11_stopped_0 rfl ?_
  refine gb_iconst 0 d_X11_stopped_1 rfl ?_
  refine gb_puti f_X11_145 (fun h => nomatch h) (hS 77 _ rfl) rfl rfl rfl d_X11_stopped_2 ?_
  have h := gb_let_e h
  generalize gb_pi g 77 0 0 = g1 at h ⊢
  refine gb_aload_n d_X11_stopped_5 rfl ?_
  refine gb_geti f_X11_136 (hS 77 _ rfl) rfl d_X11_stopped_6 ?_
  cases h
  exact gb_iret d_X11_stopped_9 rfl ⟨rfl, rfl, rfl⟩
-- X11_draw
noncomputable def f_X11_draw (sh : List gb_Sh) (g : gb_G) (x1 : Int32) : Option (gb_G × Int32) := gb_let (gb_pj g 77 53 (gb_reml (((g.2.1 77 53) * 1103) + 12345) 1000003)) (fun g1 => gb_nzl x1.toInt64 (some (g1, (gb_reml (g1.2.1 77 53) x1.toInt64).toInt32)))
set_option maxRecDepth 100000 in
set_option maxHeartbeats 4000000 in
theorem t_X11_draw {Γ : gb_X} {sh : List gb_Sh} {x1 : Int32} {out : gb_G × Int32} (hS : gb_S sh) {g : gb_G} (h : f_X11_draw sh g x1 = some out) : gb_C Γ M_X11_draw 0 0 0 sh g [.ref 77, .int x1] (gb_Ri sh out) := by
  refine gb_C.of rfl (Nat.le_of_ble_eq_true rfl) ?_
  refine gb_pick (lv' := [(0, .ref 77), (1, .int x1)]) [0, 1] rfl ?_
  unfold f_X11_draw at h
  refine gb_aload_n d_X11_draw_0 rfl ?_
  refine gb_aload_n d_X11_draw_1 rfl ?_
  refine gb_getl f_X11_527 (hS 77 _ rfl) rfl d_X11_draw_2 ?_
  refine gb_ldc2 1103 k_X11_530 d_X11_draw_5 ?_
  refine gb_lmul d_X11_draw_8 ?_
  refine gb_ldc2 12345 k_X11_532 d_X11_draw_9 ?_
  refine gb_ladd d_X11_draw_12 ?_
  refine gb_ldc2 1000003 k_X11_534 d_X11_draw_13 ?_
  refine gb_reml_ d_X11_draw_16 (by decide) ?_
  refine gb_putl f_X11_527 (fun h => nomatch h) (hS 77 _ rfl) rfl rfl rfl d_X11_draw_17 ?_
  have h := gb_let_e h
  generalize gb_pj g 77 53 (gb_reml (((g.2.1 77 53) * 1103) + 12345) 1000003) = g1 at h ⊢
  refine gb_aload_n d_X11_draw_20 rfl ?_
  refine gb_getl f_X11_527 (hS 77 _ rfl) rfl d_X11_draw_21 ?_
  refine gb_iload_n d_X11_draw_24 rfl ?_
  refine gb_i2l d_X11_draw_25 ?_
  obtain ⟨hn2, h⟩ := gb_nzl_e h
  refine gb_reml_ d_X11_draw_26 hn2 ?_
  refine gb_l2i d_X11_draw_27 ?_
  cases h
  exact gb_iret d_X11_draw_28 rfl ⟨rfl, rfl, rfl⟩
