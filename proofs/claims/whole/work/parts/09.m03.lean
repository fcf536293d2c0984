-- X6_sumOfMonths
noncomputable def f_X6_sumOfMonths_50 (sh : List gb_Sh) (b1 : Nat) (K5 : gb_G → Int32 → Int32 → Int64 → Int32 → Option (gb_G × Int64)) : Nat → gb_G → Int32 → Int32 → Int64 → Int32 → Int64 → Int32 → Option (gb_G × Int64)
  | 0, _, _, _, _, _, _, _ => none
  | n + 1, g, y1, y2, y3, y5, y6, y8 => if y2 ≤ y8 then (K5 g y1 y2 (y3 + y6) (y5 + 1)) else (gb_ck y5 12 (f_X6_sumOfMonths_50 sh b1 K5 n g y1 y2 y3 y5 (y6 * ((g.1 (b1 + 3) y5.toNatClampNeg).toInt64)) (y8 + 1)))
noncomputable def f_X6_sumOfMonths_27 (sh : List gb_Sh) (b1 : Nat) (K5 : gb_G → Int32 → Int32 → Int64 → Int32 → Option (gb_G × Int64)) : Nat → gb_G → Int32 → Int32 → Int64 → Int32 → Int64 → Int32 → Option (gb_G × Int64)
  | 0, _, _, _, _, _, _, _ => none
  | n + 1, g, y1, y2, y3, y5, y6, y8 => if y1 ≤ y8 then (f_X6_sumOfMonths_50 sh b1 K5 gb_N g y1 y2 y3 y5 y6 0) else (f_X6_sumOfMonths_27 sh b1 K5 n g y1 y2 y3 y5 (y6 * y5.toInt64) (y8 + 1))
noncomputable def f_X6_sumOfMonths_5 (sh : List gb_Sh) (b1 : Nat) : Nat → gb_G → Int32 → Int32 → Int64 → Int32 → Option (gb_G × Int64)
  | 0, _, _, _, _, _ => none
  | n + 1, g, y1, y2, y3, y5 => if (g.1 b1 4) ≤ y5 then (some (g, y3)) else (if 12 ≤ y5 then (some (g, y3)) else (f_X6_sumOfMonths_27 sh b1 (fun w w0 w1 w2 w3 => f_X6_sumOfMonths_5 sh b1 n w w0 w1 w2 w3) gb_N g y1 y2 y3 y5 1 0))
noncomputable def f_X6_sumOfMonths (sh : List gb_Sh) (g : gb_G) (b1 : Nat) (x2 : Int32) (x3 : Int32) : Option (gb_G × Int64) := f_X6_sumOfMonths_5 sh b1 gb_N g x2 x3 0 0
set_option maxRecDepth 100000 in
set_option maxHeartbeats 4000000 in
theorem t_X6_sumOfMonths_50 {Γ : gb_X} {sh : List gb_Sh} {b1 : Nat} {out : gb_G × Int64} (hS : gb_S sh) (h_b1 : gb_okX0 sh b1) {K5 : gb_G → Int32 → Int32 → Int64 → Int32 → Option (gb_G × Int64)} (hK5 : ∀ (g : gb_G) (y1 : Int32) (y2 : Int32) (y3 : Int64) (y5 : Int32), K5 g y1 y2 y3 y5 = some out → gb_J Γ M_X6_sumOfMonths 0 (gb_Rl sh out) 0 0 sh g 5 [(0, .ref b1), (1, .int y1), (2, .int y2), (3, .long y3), (5, .int y5)] []) : ∀ (n : Nat) (g : gb_G) (y1 : Int32) (y2 : Int32) (y3 : Int64) (y5 : Int32) (y6 : Int64) (y8 : Int32), f_X6_sumOfMonths_50 sh b1 K5 n g y1 y2 y3 y5 y6 y8 = some out → gb_J Γ M_X6_sumOfMonths 0 (gb_Rl sh out) 0 0 sh g 50 [(0, .ref b1), (1, .int y1), (2, .int y2), (3, .long y3), (5, .int y5), (6, .long y6), (8, .int y8)] [] := by
  intro n
  induction n with
  | zero => intro g y1 y2 y3 y5 y6 y8 h; cases h
  | succ n ih =>
    intro g y1 y2 y3 y5 y6 y8 h
    rw [f_X6_sumOfMonths_50] at h
    refine gb_iload d_X6_sumOfMonths_50 rfl ?_
    refine gb_iload_n d_X6_sumOfMonths_52 rfl ?_
    refine gb_icmp_ge 75 d_X6_sumOfMonths_53 (by decide) (fun hc => ?_) (fun hc => ?_)
    · have h := gb_it hc h
      refine gb_lload_n d_X6_sumOfMonths_75 rfl ?_
      refine gb_lload d_X6_sumOfMonths_76 rfl ?_
      refine gb_ladd d_X6_sumOfMonths_78 ?_
      refine gb_lstore_n [(3, .long (y3 + y6)), (0, .ref b1), (1, .int y1), (2, .int y2), (5, .int y5), (6, .long y6), (8, .int y8)] d_X6_sumOfMonths_79 (Nat.le_of_ble_eq_true rfl) rfl ?_
      refine gb_iinc (y5 + 1) [(5, .int (y5 + 1)), (3, .long (y3 + y6)), (0, .ref b1), (1, .int y1), (2, .int y2), (6, .long y6), (8, .int y8)] d_X6_sumOfMonths_80 (Nat.le_of_ble_eq_true rfl) rfl rfl rfl ?_
      refine gb_goto 5 d_X6_sumOfMonths_83 (by decide) ?_
      refine gb_pick (lv' := [(0, .ref b1), (1, .int y1), (2, .int y2), (3, .long (y3 + y6)), (5, .int (y5 + 1))]) [2, 3, 4, 1, 0] rfl ?_
      exact hK5 _ y1 y2 (y3 + y6) (y5 + 1) h
    · have h := gb_if hc h
      refine gb_lload d_X6_sumOfMonths_56 rfl ?_
      refine gb_aload_n d_X6_sumOfMonths_58 rfl ?_
      refine gb_getr (r := (b1 + 3)) f_X6_155 h_b1.1 rfl d_X6_sumOfMonths_59 ?_
      refine gb_iload d_X6_sumOfMonths_62 rfl ?_
      obtain ⟨hi1, h⟩ := gb_ck_e h
      refine gb_iald_ y5.toNatClampNeg rfl h_b1.2.2.2.1 hi1 d_X6_sumOfMonths_64 ?_
      refine gb_i2l d_X6_sumOfMonths_65 ?_
      refine gb_lmul d_X6_sumOfMonths_66 ?_
      refine gb_lstore [(6, .long (y6 * ((g.1 (b1 + 3) y5.toNatClampNeg).toInt64))), (0, .ref b1), (1, .int y1), (2, .int y2), (3, .long y3), (5, .int y5), (8, .int y8)] d_X6_sumOfMonths_67 (Nat.le_of_ble_eq_true rfl) rfl ?_
      refine gb_iinc (y8 + 1) [(8, .int (y8 + 1)), (6, .long (y6 * ((g.1 (b1 + 3) y5.toNatClampNeg).toInt64))), (0, .ref b1), (1, .int y1), (2, .int y2), (3, .long y3), (5, .int y5)] d_X6_sumOfMonths_69 (Nat.le_of_ble_eq_true rfl) rfl rfl rfl ?_
      refine gb_goto 50 d_X6_sumOfMonths_72 (by decide) ?_
      refine gb_pick (lv' := [(0, .ref b1), (1, .int y1), (2, .int y2), (3, .long y3), (5, .int y5), (6, .long (y6 * ((g.1 (b1 + 3) y5.toNatClampNeg).toInt64))), (8, .int (y8 + 1))]) [2, 3, 4, 5, 6, 1, 0] rfl ?_
      exact ih _ y1 y2 y3 y5 (y6 * ((g.1 (b1 + 3) y5.toNatClampNeg).toInt64)) (y8 + 1) h
set_option maxRecDepth 100000 in
set_option maxHeartbeats 4000000 in
theorem t_X6_sumOfMonths_27 {Γ : gb_X} {sh : List gb_Sh} {b1 : Nat} {out : gb_G × Int64} (hS : gb_S sh) (h_b1 : gb_okX0 sh b1) {K5 : gb_G → Int32 → Int32 → Int64 → Int32 → Option (gb_G × Int64)} (hK5 : ∀ (g : gb_G) (y1 : Int32) (y2 : Int32) (y3 : Int64) (y5 : Int32), K5 g y1 y2 y3 y5 = some out → gb_J Γ M_X6_sumOfMonths 0 (gb_Rl sh out) 0 0 sh g 5 [(0, .ref b1), (1, .int y1), (2, .int y2), (3, .long y3), (5, .int y5)] []) : ∀ (n : Nat) (g : gb_G) (y1 : Int32) (y2 : Int32) (y3 : Int64) (y5 : Int32) (y6 : Int64) (y8 : Int32), f_X6_sumOfMonths_27 sh b1 K5 n g y1 y2 y3 y5 y6 y8 = some out → gb_J Γ M_X6_sumOfMonths 0 (gb_Rl sh out) 0 0 sh g 27 [(0, .ref b1), (1, .int y1), (2, .int y2), (3, .long y3), (5, .int y5), (6, .long y6), (8, .int y8)] [] := by
  intro n
  induction n with
  | zero => intro g y1 y2 y3 y5 y6 y8 h; cases h
  | succ n ih =>
    intro g y1 y2 y3 y5 y6 y8 h
    rw [f_X6_sumOfMonths_27] at h
    refine gb_iload d_X6_sumOfMonths_27 rfl ?_
    refine gb_iload_n d_X6_sumOfMonths_29 rfl ?_
    refine gb_icmp_ge 47 d_X6_sumOfMonths_30 (by decide) (fun hc => ?_) (fun hc => ?_)
    · have h := gb_it hc h
      refine gb_iconst 0 d_X6_sumOfMonths_47 rfl ?_
      refine gb_istore [(8, .int 0), (0, .ref b1), (1, .int y1), (2, .int y2), (3, .long y3), (5, .int y5), (6, .long y6)] d_X6_sumOfMonths_48 (Nat.le_of_ble_eq_true rfl) rfl ?_
      refine gb_pick (lv' := [(0, .ref b1), (1, .int y1), (2, .int y2), (3, .long y3), (5, .int y5), (6, .long y6), (8, .int 0)]) [1, 2, 3, 4, 5, 6, 0] rfl ?_
      exact t_X6_sumOfMonths_50 hS h_b1 hK5 gb_N _ y1 y2 y3 y5 y6 0 h
    · have h := gb_if hc h
      refine gb_lload d_X6_sumOfMonths_33 rfl ?_
      refine gb_iload d_X6_sumOfMonths_35 rfl ?_
      refine gb_i2l d_X6_sumOfMonths_37 ?_
      refine gb_lmul d_X6_sumOfMonths_38 ?_
      refine gb_lstore [(6, .long (y6 * y5.toInt64)), (0, .ref b1), (1, .int y1), (2, .int y2), (3, .long y3), (5, .int y5), (8, .int y8)] d_X6_sumOfMonths_39 (Nat.le_of_ble_eq_true rfl) rfl ?_
      refine gb_iinc (y8 + 1) [(8, .int (y8 + 1)), (6, .long (y6 * y5.toInt64)), (0, .ref b1), (1, .int y1), (2, .int y2), (3, .long y3), (5, .int y5)] d_X6_sumOfMonths_41 (Nat.le_of_ble_eq_true rfl) rfl rfl rfl ?_
      refine gb_goto 27 d_X6_sumOfMonths_44 (by decide) ?_
      refine gb_pick (lv' := [(0, .ref b1), (1, .int y1), (2, .int y2), (3, .long y3), (5, .int y5), (6, .long (y6 * y5.toInt64)), (8, .int (y8 + 1))]) [2, 3, 4, 5, 6, 1, 0] rfl ?_
      exact ih _ y1 y2 y3 y5 (y6 * y5.toInt64) (y8 + 1) h
set_option maxRecDepth 100000 in
set_option maxHeartbeats 4000000 in
theorem t_X6_sumOfMonths_5 {Γ : gb_X} {sh : List gb_Sh} {b1 : Nat} {out : gb_G × Int64} (hS : gb_S sh) (h_b1 : gb_okX0 sh b1) : ∀ (n : Nat) (g : gb_G) (y1 : Int32) (y2 : Int32) (y3 : Int64) (y5 : Int32), f_X6_sumOfMonths_5 sh b1 n g y1 y2 y3 y5 = some out → gb_J Γ M_X6_sumOfMonths 0 (gb_Rl sh out) 0 0 sh g 5 [(0, .ref b1), (1, .int y1), (2, .int y2), (3, .long y3), (5, .int y5)] [] := by
  intro n
  induction n with
  | zero => intro g y1 y2 y3 y5 h; cases h
  | succ n ih =>
    intro g y1 y2 y3 y5 h
    rw [f_X6_sumOfMonths_5] at h
    refine gb_iload d_X6_sumOfMonths_5 rfl ?_
    refine gb_aload_n d_X6_sumOfMonths_7 rfl ?_
    refine gb_geti f_X6_144 h_b1.1 rfl d_X6_sumOfMonths_8 ?_
    refine gb_icmp_ge 86 d_X6_sumOfMonths_11 (by decide) (fun hc => ?_) (fun hc => ?_)
    · have h := gb_it hc h
      refine gb_lload_n d_X6_sumOfMonths_86 rfl ?_
      cases h
      exact gb_lret d_X6_sumOfMonths_87 rfl ⟨rfl, rfl, rfl⟩
    · have h := gb_if hc h
      refine gb_iload d_X6_sumOfMonths_14 rfl ?_
      refine gb_bipush 12 d_X6_sumOfMonths_16 rfl ?_
      refine gb_icmp_ge 86 d_X6_sumOfMonths_18 (by decide) (fun hc => ?_) (fun hc => ?_)
      · have h := gb_it hc h
        refine gb_lload_n d_X6_sumOfMonths_86 rfl ?_
        cases h
        exact gb_lret d_X6_sumOfMonths_87 rfl ⟨rfl, rfl, rfl⟩
      · have h := gb_if hc h
        refine gb_lconst 1 d_X6_sumOfMonths_21 rfl ?_
        refine gb_lstore [(6, .long 1), (0, .ref b1), (1, .int y1), (2, .int y2), (3, .long y3), (5, .int y5)] d_X6_sumOfMonths_22 (Nat.le_of_ble_eq_true rfl) rfl ?_
        refine gb_iconst 0 d_X6_sumOfMonths_24 rfl ?_
        refine gb_istore [(8, .int 0), (6, .long 1), (0, .ref b1), (1, .int y1), (2, .int y2), (3, .long y3), (5, .int y5)] d_X6_sumOfMonths_25 (Nat.le_of_ble_eq_true rfl) rfl ?_
        refine gb_pick (lv' := [(0, .ref b1), (1, .int y1), (2, .int y2), (3, .long y3), (5, .int y5), (6, .long 1), (8, .int 0)]) [2, 3, 4, 5, 6, 1, 0] rfl ?_
        exact t_X6_sumOfMonths_27 hS h_b1 (fun w w0 w1 w2 w3 hw => ih w w0 w1 w2 w3 hw) gb_N _ y1 y2 y3 y5 1 0 h
set_option maxRecDepth 100000 in
set_option maxHeartbeats 4000000 in
theorem t_X6_sumOfMonths {Γ : gb_X} {sh : List gb_Sh} {b1 : Nat} {x2 : Int32} {x3 : Int32} {out : gb_G × Int64} (hS : gb_S sh) (h_b1 : gb_okX0 sh b1) {g : gb_G} (h : f_X6_sumOfMonths sh g b1 x2 x3 = some out) : gb_C Γ M_X6_sumOfMonths 0 0 0 sh g [.ref b1, .int x2, .int x3] (gb_Rl sh out) := by
  refine gb_C.of rfl (Nat.le_of_ble_eq_true rfl) ?_
  refine gb_pick (lv' := [(0, .ref b1), (1, .int x2), (2, .int x3)]) [0, 1, 2] rfl ?_
  unfold f_X6_sumOfMonths at h
  refine gb_lconst 0 d_X6_sumOfMonths_0 rfl ?_
  refine gb_lstore_n [(3, .long 0), (0, .ref b1), (1, .int x2), (2, .int x3)] d_X6_sumOfMonths_1 (Nat.le_of_ble_eq_true rfl) rfl ?_
  refine gb_iconst 0 d_X6_sumOfMonths_2 rfl ?_
  refine gb_istore [(5, .int 0), (3, .long 0), (0, .ref b1), (1, .int x2), (2, .int x3)] d_X6_sumOfMonths_3 (Nat.le_of_ble_eq_true rfl) rfl ?_
  refine gb_pick (lv' := [(0, .ref b1), (1, .int x2), (2, .int x3), (3, .long 0), (5, .int 0)]) [2, 3, 4, 1, 0] rfl ?_
  exact t_X6_sumOfMonths_5 hS h_b1  gb_N _ x2 x3 0 0 h
-- X6_rise
noncomputable def f_X6_rise (sh : List gb_Sh) (g : gb_G) (b1 : Nat) : Option (gb_G) := gb_bd (f_X6_sumOfMonths sh g b1 1 0) (fun r1 => gb_bd (f_X6_sumOfMonths sh r1.1 b1 0 1) (fun r3 => gb_bd (f_X6_sumOfMonths sh r3.1 b1 1 1) (fun r5 => gb_bd (f_X6_sumOfMonths sh r5.1 b1 2 0) (fun r7 => gb_bd (f_X2_put sh r7.1 74 ((((g.1 b1 4).toInt64) * r5.2) - (r1.2 * r3.2)) ((((g.1 b1 4).toInt64) * r7.2) - (r1.2 * r1.2))) (fun r9 => some r9)))))
set_option maxRecDepth 100000 in
set_option maxHeartbeats 4000000 in
theorem t_X6_rise {Γ : gb_X} {sh : List gb_Sh} {b1 : Nat} {out : gb_G} (hS : gb_S sh) (h_b1 : gb_okX0 sh b1) {g : gb_G} (h : f_X6_rise sh g b1 = some out) : gb_C Γ M_X6_rise 2 0 0 sh g [.ref 63, .ref b1] (gb_Rr sh 74 out) := by
  refine gb_C.of rfl (Nat.le_of_ble_eq_true rfl) ?_
  refine gb_pick (lv' := [(0, .ref 63), (1, .ref b1)]) [0, 1] rfl ?_
  unfold f_X6_rise at h
  refine gb_aload_n d_X6_rise_0 rfl ?_
  refine gb_geti f_X6_144 h_b1.1 rfl d_X6_rise_1 ?_
  refine gb_i2l d_X6_rise_4 ?_
  refine gb_lstore_n [(2, .long ((g.1 b1 4).toInt64)), (0, .ref 63), (1, .ref b1)] d_X6_rise_5 (Nat.le_of_ble_eq_true rfl) rfl ?_
  refine gb_aload_n d_X6_rise_6 rfl ?_
  refine gb_iconst 1 d_X6_rise_7 rfl ?_
  refine gb_iconst 0 d_X6_rise_8 rfl ?_
  obtain ⟨r1, e2, h⟩ := gb_bd_e h
  refine gb_cSl (As := [.ref b1, .int 1, .int 0]) (rest := []) m_X6_147 (t_X6_sumOfMonths (Γ := Γ) hS h_b1 e2) (Nat.le_of_ble_eq_true rfl) rfl rfl (Nat.le_of_ble_eq_true rfl) d_X6_rise_9 ?_
  refine gb_lstore [(4, .long r1.2), (2, .long ((g.1 b1 4).toInt64)), (0, .ref 63), (1, .ref b1)] d_X6_rise_12 (Nat.le_of_ble_eq_true rfl) rfl ?_
  refine gb_aload_n d_X6_rise_14 rfl ?_
  refine gb_iconst 0 d_X6_rise_15 rfl ?_
  refine gb_iconst 1 d_X6_rise_16 rfl ?_
  obtain ⟨r3, e4, h⟩ := gb_bd_e h
  refine gb_cSl (As := [.ref b1, .int 0, .int 1]) (rest := []) m_X6_147 (t_X6_sumOfMonths (Γ := Γ) hS h_b1 e4) (Nat.le_of_ble_eq_true rfl) rfl rfl (Nat.le_of_ble_eq_true rfl) d_X6_rise_17 ?_
  refine gb_lstore [(6, .long r3.2), (4, .long r1.2), (2, .long ((g.1 b1 4).toInt64)), (0, .ref 63), (1, .ref b1)] d_X6_rise_20 (Nat.le_of_ble_eq_true rfl) rfl ?_
  refine gb_aload_n d_X6_rise_22 rfl ?_
  refine gb_getr (r := 74) f_X6_53 (hS 63 _ rfl) rfl d_X6_rise_23 ?_
  refine gb_lload_n d_X6_rise_26 rfl ?_
  refine gb_aload_n d_X6_rise_27 rfl ?_
  refine gb_iconst 1 d_X6_rise_28 rfl ?_
  refine gb_iconst 1 d_X6_rise_29 rfl ?_
  obtain ⟨r5, e6, h⟩ := gb_bd_e h
  refine gb_cSl (As := [.ref b1, .int 1, .int 1]) (rest := [.long ((g.1 b1 4).toInt64), .ref 74]) m_X6_147 (t_X6_sumOfMonths (Γ := Γ) hS h_b1 e6) (Nat.le_of_ble_eq_true rfl) rfl rfl (Nat.le_of_ble_eq_true rfl) d_X6_rise_30 ?_
  refine gb_lmul d_X6_rise_33 ?_
  refine gb_lload d_X6_rise_34 rfl ?_
  refine gb_lload d_X6_rise_36 rfl ?_
  refine gb_lmul d_X6_rise_38 ?_
  refine gb_lsub d_X6_rise_39 ?_
  refine gb_lload_n d_X6_rise_40 rfl ?_
  refine gb_aload_n d_X6_rise_41 rfl ?_
  refine gb_iconst 2 d_X6_rise_42 rfl ?_
  refine gb_iconst 0 d_X6_rise_43 rfl ?_
  obtain ⟨r7, e8, h⟩ := gb_bd_e h
  refine gb_cSl (As := [.ref b1, .int 2, .int 0]) (rest := [.long ((g.1 b1 4).toInt64), .long ((((g.1 b1 4).toInt64) * r5.2) - (r1.2 * r3.2)), .ref 74]) m_X6_147 (t_X6_sumOfMonths (Γ := Γ) hS h_b1 e8) (Nat.le_of_ble_eq_true rfl) rfl rfl (Nat.le_of_ble_eq_true rfl) d_X6_rise_44 ?_
  refine gb_lmul d_X6_rise_47 ?_
  refine gb_lload d_X6_rise_48 rfl ?_
  refine gb_lload d_X6_rise_50 rfl ?_
  refine gb_lmul d_X6_rise_52 ?_
  refine gb_lsub d_X6_rise_53 ?_
  obtain ⟨r9, e10, h⟩ := gb_bd_e h
  refine gb_cVv (As := [.long ((((g.1 b1 4).toInt64) * r5.2) - (r1.2 * r3.2)), .long ((((g.1 b1 4).toInt64) * r7.2) - (r1.2 * r1.2))]) (rest := []) m_X6_151 (t_X2_put (Γ := Γ) hS (ok_X2_74 hS) e10) (ok_X2_74 hS) rfl (Nat.le_of_ble_eq_true rfl) rfl rfl (Nat.le_of_ble_eq_true rfl) d_X6_rise_54 ?_
  refine gb_aload_n d_X6_rise_57 rfl ?_
  refine gb_getr (r := 74) f_X6_53 (hS 63 _ rfl) rfl d_X6_rise_58 ?_
  cases h
  exact gb_aret d_X6_rise_61 rfl (Or.inl ⟨_, rfl⟩) (Or.inr ⟨_, rfl⟩) ⟨rfl, rfl, rfl⟩
-- X6_atStart
noncomputable def f_X6_atStart (sh : List gb_Sh) (g : gb_G) (b1 : Nat) : Option (gb_G) := gb_bd (f_X6_sumOfMonths sh g b1 1 0) (fun r1 => gb_bd (f_X6_sumOfMonths sh r1.1 b1 2 0) (fun r3 => gb_bd (f_X6_sumOfMonths sh r3.1 b1 0 1) (fun r5 => gb_bd (f_X6_sumOfMonths sh r5.1 b1 1 1) (fun r7 => gb_bd (f_X2_put sh r7.1 74 ((r5.2 * r3.2) - (r1.2 * r7.2)) ((((g.1 b1 4).toInt64) * r3.2) - (r1.2 * r1.2))) (fun r9 => some r9)))))
set_option maxRecDepth 100000 in
set_option maxHeartbeats 4000000 in
theorem t_X6_atStart {Γ : gb_X} {sh : List gb_Sh} {b1 : Nat} {out : gb_G} (hS : gb_S sh) (h_b1 : gb_okX0 sh b1) {g : gb_G} (h : f_X6_atStart sh g b1 = some out) : gb_C Γ M_X6_atStart 2 0 0 sh g [.ref 63, .ref b1] (gb_Rr sh 74 out) := by
  refine gb_C.of rfl (Nat.le_of_ble_eq_true rfl) ?_
  refine gb_pick (lv' := [(0, .ref 63), (1, .ref b1)]) [0, 1] rfl ?_
  unfold f_X6_atStart at h
  refine gb_aload_n d_X6_atStart_0 rfl ?_
  refine gb_geti f_X6_144 h_b1.1 rfl d_X6_atStart_1 ?_
  refine gb_i2l d_X6_atStart_4 ?_
  refine gb_lstore_n [(2, .long ((g.1 b1 4).toInt64)), (0, .ref 63), (1, .ref b1)] d_X6_atStart_5 (Nat.le_of_ble_eq_true rfl) rfl ?_
  refine gb_aload_n d_X6_atStart_6 rfl ?_
  refine gb_iconst 1 d_X6_atStart_7 rfl ?_
  refine gb_iconst 0 d_X6_atStart_8 rfl ?_
  obtain ⟨r1, e2, h⟩ := gb_bd_e h
  refine gb_cSl (As := [.ref b1, .int 1, .int 0]) (rest := []) m_X6_147 (t_X6_sumOfMonths (Γ := Γ) hS h_b1 e2) (Nat.le_of_ble_eq_true rfl) rfl rfl (Nat.le_of_ble_eq_true rfl) d_X6_atStart_9 ?_
  refine gb_lstore [(4, .long r1.2), (2, .long ((g.1 b1 4).toInt64)), (0, .ref 63), (1, .ref b1)] d_X6_atStart_12 (Nat.le_of_ble_eq_true rfl) rfl ?_
  refine gb_aload_n d_X6_atStart_14 rfl ?_
  refine gb_iconst 2 d_X6_atStart_15 rfl ?_
  refine gb_iconst 0 d_X6_atStart_16 rfl ?_
  obtain ⟨r3, e4, h⟩ := gb_bd_e h
  refine gb_cSl (As := [.ref b1, .int 2, .int 0]) (rest := []) m_X6_147 (t_X6_sumOfMonths (Γ := Γ) hS h_b1 e4) (Nat.le_of_ble_eq_true rfl) rfl rfl (Nat.le_of_ble_eq_true rfl) d_X6_atStart_17 ?_
  refine gb_lstore [(6, .long r3.2), (4, .long r1.2), (2, .long ((g.1 b1 4).toInt64)), (0, .ref 63), (1, .ref b1)] d_X6_atStart_20 (Nat.le_of_ble_eq_true rfl) rfl ?_
  refine gb_aload_n d_X6_atStart_22 rfl ?_
  refine gb_getr (r := 74) f_X6_53 (hS 63 _ rfl) rfl d_X6_atStart_23 ?_
  refine gb_aload_n d_X6_atStart_26 rfl ?_
  refine gb_iconst 0 d_X6_atStart_27 rfl ?_
  refine gb_iconst 1 d_X6_atStart_28 rfl ?_
  obtain ⟨r5, e6, h⟩ := gb_bd_e h
  refine gb_cSl (As := [.ref b1, .int 0, .int 1]) (rest := [.ref 74]) m_X6_147 (t_X6_sumOfMonths (Γ := Γ) hS h_b1 e6) (Nat.le_of_ble_eq_true rfl) rfl rfl (Nat.le_of_ble_eq_true rfl) d_X6_atStart_29 ?_
  refine gb_lload d_X6_atStart_32 rfl ?_
  refine gb_lmul d_X6_atStart_34 ?_
  refine gb_lload d_X6_atStart_35 rfl ?_
  refine gb_aload_n d_X6_atStart_37 rfl ?_
  refine gb_iconst 1 d_X6_atStart_38 rfl ?_
  refine gb_iconst 1 d_X6_atStart_39 rfl ?_
  obtain ⟨r7, e8, h⟩ := gb_bd_e h
  refine gb_cSl (As := [.ref b1, .int 1, .int 1]) (rest := [.long r1.2, .long (r5.2 * r3.2), .ref 74]) m_X6_147 (t_X6_sumOfMonths (Γ := Γ) hS h_b1 e8) (Nat.le_of_ble_eq_true rfl) rfl rfl (Nat.le_of_ble_eq_true rfl) d_X6_atStart_40 ?_
  refine gb_lmul d_X6_atStart_43 ?_
  refine gb_lsub d_X6_atStart_44 ?_
  refine gb_lload_n d_X6_atStart_45 rfl ?_
  refine gb_lload d_X6_atStart_46 rfl ?_
  refine gb_lmul d_X6_atStart_48 ?_
  refine gb_lload d_X6_atStart_49 rfl ?_
  refine gb_lload d_X6_atStart_51 rfl ?_
  refine gb_lmul d_X6_atStart_53 ?_
  refine gb_lsub d_X6_atStart_54 ?_
  obtain ⟨r9, e10, h⟩ := gb_bd_e h
  refine gb_cVv (As := [.long ((r5.2 * r3.2) - (r1.2 * r7.2)), .long ((((g.1 b1 4).toInt64) * r3.2) - (r1.2 * r1.2))]) (rest := []) m_X6_151 (t_X2_put (Γ := Γ) hS (ok_X2_74 hS) e10) (ok_X2_74 hS) rfl (Nat.le_of_ble_eq_true rfl) rfl rfl (Nat.le_of_ble_eq_true rfl) d_X6_atStart_55 ?_
  refine gb_aload_n d_X6_atStart_58 rfl ?_
  refine gb_getr (r := 74) f_X6_53 (hS 63 _ rfl) rfl d_X6_atStart_59 ?_
  cases h
  exact gb_aret d_X6_atStart_62 rfl (Or.inl ⟨_, rfl⟩) (Or.inr ⟨_, rfl⟩) ⟨rfl, rfl, rfl⟩
-- J7_fill_d0a16
noncomputable def f_J7_fill_d0a16_6 (sh : List gb_Sh) (a1 : Nat) (n1 : Nat) : Nat → gb_G → Int64 → Int32 → Int32 → Option (gb_G)
  | 0, _, _, _, _ => none
  | n + 1, g, y1, y3, y4 => if y4 ≤ y3 then (some g) else (gb_ck y3 n1 (gb_let (gb_pj g a1 y3.toNatClampNeg y1) (fun g2 => f_J7_fill_d0a16_6 sh a1 n1 n g2 y1 (y3 + 1) y4)))
noncomputable def f_J7_fill_d0a16 (sh : List gb_Sh) (g : gb_G) (a1 : Nat) (n1 : Nat) (x2 : Int64) : Option (gb_G) := f_J7_fill_d0a16_6 sh a1 n1 gb_N g x2 0 (Int32.ofNat n1)
set_option maxRecDepth 100000 in
set_option maxHeartbeats 4000000 in
theorem t_J7_fill_d0a16_6 {Γ : gb_X} {sh : List gb_Sh} {a1 : Nat} {n1 : Nat} {out : gb_G} (hS : gb_S sh) (h_a1 : sh[a1]? = some (.inl (1, n1))) : ∀ (n : Nat) (g : gb_G) (y1 : Int64) (y3 : Int32) (y4 : Int32), f_J7_fill_d0a16_6 sh a1 n1 n g y1 y3 y4 = some out → gb_J Γ M_J7_fill_d0a16 0 (gb_Rv sh out) 0 0 sh g 6 [(0, .ref a1), (1, .long y1), (3, .int y3), (4, .int y4)] [] := by
  intro n
  induction n with
  | zero => intro g y1 y3 y4 h; cases h
  | succ n ih =>
    intro g y1 y3 y4 h
    rw [f_J7_fill_d0a16_6] at h
    refine gb_iload_n d_J7_fill_d0a16_6 rfl ?_
    refine gb_iload d_J7_fill_d0a16_7 rfl ?_
    refine gb_icmp_ge 22 d_J7_fill_d0a16_9 (by decide) (fun hc => ?_) (fun hc => ?_)
    · have h := gb_it hc h
      cases h
      exact gb_vret d_J7_fill_d0a16_22 rfl ⟨rfl, rfl, rfl⟩
    · have h := gb_if hc h
      refine gb_aload_n d_J7_fill_d0a16_12 rfl ?_
      refine gb_iload_n d_J7_fill_d0a16_13 rfl ?_
      refine gb_lload_n d_J7_fill_d0a16_14 rfl ?_
      obtain ⟨hi1, h⟩ := gb_ck_e h
      refine gb_last_ y3.toNatClampNeg rfl h_a1 hi1 d_J7_fill_d0a16_15 ?_
      have h := gb_let_e h
      generalize gb_pj g a1 y3.toNatClampNeg y1 = g2 at h ⊢
      refine gb_iinc (y3 + 1) [(3, .int (y3 + 1)), (0, .ref a1), (1, .long y1), (4, .int y4)] d_J7_fill_d0a16_16 (Nat.le_of_ble_eq_true rfl) rfl rfl rfl ?_
      refine gb_goto 6 d_J7_fill_d0a16_19 (by decide) ?_
      refine gb_pick (lv' := [(0, .ref a1), (1, .long y1), (3, .int (y3 + 1)), (4, .int y4)]) [1, 2, 0, 3] rfl ?_
      exact ih _ y1 (y3 + 1) y4 h
set_option maxRecDepth 100000 in
set_option maxHeartbeats 4000000 in
theorem t_J7_fill_d0a16 {Γ : gb_X} {sh : List gb_Sh} {a1 : Nat} {n1 : Nat} {x2 : Int64} {out : gb_G} (hS : gb_S sh) (h_a1 : sh[a1]? = some (.inl (1, n1))) {g : gb_G} (h : f_J7_fill_d0a16 sh g a1 n1 x2 = some out) : gb_C Γ M_J7_fill_d0a16 0 0 0 sh g [.ref a1, .long x2] (gb_Rv sh out) := by
  refine gb_C.ofF (by decide +kernel) (Nat.le_of_ble_eq_true rfl) ?_
  refine gb_pick (lv' := [(0, .ref a1), (1, .long x2)]) [0, 1] rfl ?_
  unfold f_J7_fill_d0a16 at h
  refine gb_iconst 0 d_J7_fill_d0a16_0 rfl ?_
  refine gb_istore_n [(3, .int 0), (0, .ref a1), (1, .long x2)] d_J7_fill_d0a16_1 (Nat.le_of_ble_eq_true rfl) rfl ?_
  refine gb_aload_n d_J7_fill_d0a16_2 rfl ?_
  refine gb_alen (Int32.ofNat n1) (by decide) h_a1 rfl d_J7_fill_d0a16_3 ?_
  refine gb_istore [(4, .int (Int32.ofNat n1)), (3, .int 0), (0, .ref a1), (1, .long x2)] d_J7_fill_d0a16_4 (Nat.le_of_ble_eq_true rfl) rfl ?_
  refine gb_pick (lv' := [(0, .ref a1), (1, .long x2), (3, .int 0), (4, .int (Int32.ofNat n1))]) [2, 3, 1, 0] rfl ?_
  exact t_J7_fill_d0a16_6 hS h_a1  gb_N _ x2 0 (Int32.ofNat n1) h
-- X6_partsAtTop
noncomputable def f_X6_partsAtTop_60 (sh : List gb_Sh) (K26 : gb_G → Int32 → Int32 → Int32 → Option (gb_G × Int64)) : Nat → gb_G → Int32 → Int32 → Int32 → Int32 → Option (gb_G × Int64)
  | 0, _, _, _, _, _ => none
  | n + 1, g, y2, y3, y4, y5 => if y5 < 1 then (K26 g y2 y3 (y4 + 1)) else (gb_ck y5 13 (gb_ck (y5 - 1) 13 (gb_ck y5 13 (gb_let (gb_pj g 73 y5.toNatClampNeg ((((g.2.1 73 y5.toNatClampNeg) * ((10 - y2).toInt64)) / 10) + (((g.2.1 73 ((y5 - 1).toNatClampNeg)) * y2.toInt64) / 10))) (fun g11 => f_X6_partsAtTop_60 sh K26 n g11 y2 y3 y4 (y5 + (-1)))))))
noncomputable def f_X6_partsAtTop_26 (sh : List gb_Sh) : Nat → gb_G → Int32 → Int32 → Int32 → Option (gb_G × Int64)
  | 0, _, _, _, _ => none
  | n + 1, g, y2, y3, y4 => if y3 ≤ y4 then (some (g, (g.2.1 73 12))) else (gb_let (gb_pj g 73 12 ((g.2.1 73 12) + (((g.2.1 73 11) * y2.toInt64) / 10))) (fun g7 => f_X6_partsAtTop_60 sh (fun w w0 w1 w2 => f_X6_partsAtTop_26 sh n w w0 w1 w2) gb_N g7 y2 y3 y4 11))
noncomputable def f_X6_partsAtTop (sh : List gb_Sh) (g : gb_G) (x1 : Int32) (x2 : Int32) (x3 : Int32) : Option (gb_G × Int64) := gb_bd (f_J7_fill_d0a16 sh g 73 13 0) (fun r1 => gb_bd (f_X10_nearest sh r1 x1 0 12) (fun r3 => gb_ck r3.2 13 (gb_let (gb_pj r3.1 73 r3.2.toNatClampNeg 1000000000000) (fun g6 => f_X6_partsAtTop_26 sh gb_N g6 x2 x3 0))))
set_option maxRecDepth 100000 in
set_option maxHeartbeats 4000000 in
theorem t_X6_partsAtTop_60 {Γ : gb_X} {sh : List gb_Sh} {out : gb_G × Int64} (hS : gb_S sh) {K26 : gb_G → Int32 → Int32 → Int32 → Option (gb_G × Int64)} (hK26 : ∀ (g : gb_G) (y2 : Int32) (y3 : Int32) (y4 : Int32), K26 g y2 y3 y4 = some out → gb_J Γ M_X6_partsAtTop 2 (gb_Rl sh out) 0 0 sh g 26 [(0, .ref 63), (2, .int y2), (3, .int y3), (4, .int y4)] []) : ∀ (n : Nat) (g : gb_G) (y2 : Int32) (y3 : Int32) (y4 : Int32) (y5 : Int32), f_X6_partsAtTop_60 sh K26 n g y2 y3 y4 y5 = some out → gb_J Γ M_X6_partsAtTop 2 (gb_Rl sh out) 0 0 sh g 60 [(0, .ref 63), (2, .int y2), (3, .int y3), (4, .int y4), (5, .int y5)] [] := by
  intro n
  induction n with
  | zero => intro g y2 y3 y4 y5 h; cases h
  | succ n ih =>
    intro g y2 y3 y4 y5 h
    rw [f_X6_partsAtTop_60] at h
    refine gb_iload d_X6_partsAtTop_60 rfl ?_
    refine gb_iconst 1 d_X6_partsAtTop_62 rfl ?_
    refine gb_icmp_lt 113 d_X6_partsAtTop_63 (by decide) (fun hc => ?_) (fun hc => ?_)
    · have h := gb_it hc h
      refine gb_iinc (y4 + 1) [(4, .int (y4 + 1)), (0, .ref 63), (2, .int y2), (3, .int y3), (5, .int y5)] d_X6_partsAtTop_113 (Nat.le_of_ble_eq_true rfl) rfl rfl rfl ?_
      refine gb_goto 26 d_X6_partsAtTop_116 (by decide) ?_
      refine gb_pick (lv' := [(0, .ref 63), (2, .int y2), (3, .int y3), (4, .int (y4 + 1))]) [1, 2, 3, 0] rfl ?_
      exact hK26 _ y2 y3 (y4 + 1) h
    · have h := gb_if hc h
      refine gb_aload_n d_X6_partsAtTop_66 rfl ?_
      refine gb_getr (r := 73) f_X6_46 (hS 63 _ rfl) rfl d_X6_partsAtTop_67 ?_
      refine gb_iload d_X6_partsAtTop_70 rfl ?_
      refine gb_aload_n d_X6_partsAtTop_72 rfl ?_
      refine gb_getr (r := 73) f_X6_46 (hS 63 _ rfl) rfl d_X6_partsAtTop_73 ?_
      refine gb_iload d_X6_partsAtTop_76 rfl ?_
      obtain ⟨hi8, h⟩ := gb_ck_e h
      refine gb_lald_ y5.toNatClampNeg rfl (hS 73 _ rfl) hi8 d_X6_partsAtTop_78 ?_
      refine gb_bipush 10 d_X6_partsAtTop_79 rfl ?_
      refine gb_iload_n d_X6_partsAtTop_81 rfl ?_
      refine gb_isub d_X6_partsAtTop_82 ?_
      refine gb_i2l d_X6_partsAtTop_83 ?_
      refine gb_lmul d_X6_partsAtTop_84 ?_
      refine gb_ldc2 10 k_X6_166 d_X6_partsAtTop_85 ?_
      refine gb_ldiv d_X6_partsAtTop_88 (by decide) ?_
      refine gb_aload_n d_X6_partsAtTop_89 rfl ?_
      refine gb_getr (r := 73) f_X6_46 (hS 63 _ rfl) rfl d_X6_partsAtTop_90 ?_
      refine gb_iload d_X6_partsAtTop_93 rfl ?_
      refine gb_iconst 1 d_X6_partsAtTop_95 rfl ?_
      refine gb_isub d_X6_partsAtTop_96 ?_
      obtain ⟨hi9, h⟩ := gb_ck_e h
      refine gb_lald_ ((y5 - 1).toNatClampNeg) rfl (hS 73 _ rfl) hi9 d_X6_partsAtTop_97 ?_
      refine gb_iload_n d_X6_partsAtTop_98 rfl ?_
      refine gb_i2l d_X6_partsAtTop_99 ?_
      refine gb_lmul d_X6_partsAtTop_100 ?_
      refine gb_ldc2 10 k_X6_166 d_X6_partsAtTop_101 ?_
      refine gb_ldiv d_X6_partsAtTop_104 (by decide) ?_
      refine gb_ladd d_X6_partsAtTop_105 ?_
      obtain ⟨hi10, h⟩ := gb_ck_e h
      refine gb_last_ y5.toNatClampNeg rfl (hS 73 _ rfl) hi10 d_X6_partsAtTop_106 ?_
      have h := gb_let_e h
      generalize gb_pj g 73 y5.toNatClampNeg ((((g.2.1 73 y5.toNatClampNeg) * ((10 - y2).toInt64)) / 10) + (((g.2.1 73 ((y5 - 1).toNatClampNeg)) * y2.toInt64) / 10)) = g11 at h ⊢
      refine gb_iinc (y5 + (-1)) [(5, .int (y5 + (-1))), (0, .ref 63), (2, .int y2), (3, .int y3), (4, .int y4)] d_X6_partsAtTop_107 (Nat.le_of_ble_eq_true rfl) rfl rfl rfl ?_
      refine gb_goto 60 d_X6_partsAtTop_110 (by decide) ?_
      refine gb_pick (lv' := [(0, .ref 63), (2, .int y2), (3, .int y3), (4, .int y4), (5, .int (y5 + (-1)))]) [1, 2, 3, 4, 0] rfl ?_
      exact ih _ y2 y3 y4 (y5 + (-1)) h
set_option maxRecDepth 100000 in
set_option maxHeartbeats 4000000 in
theorem t_X6_partsAtTop_26 {Γ : gb_X} {sh : List gb_Sh} {out : gb_G × Int64} (hS : gb_S sh) : ∀ (n : Nat) (g : gb_G) (y2 : Int32) (y3 : Int32) (y4 : Int32), f_X6_partsAtTop_26 sh n g y2 y3 y4 = some out → gb_J Γ M_X6_partsAtTop 2 (gb_Rl sh out) 0 0 sh g 26 [(0, .ref 63), (2, .int y2), (3, .int y3), (4, .int y4)] [] := by
  intro n
  induction n with
  | zero => intro g y2 y3 y4 h; cases h
  | succ n ih =>
    intro g y2 y3 y4 h
    rw [f_X6_partsAtTop_26] at h
    refine gb_iload d_X6_partsAtTop_26 rfl ?_
    refine gb_iload_n d_X6_partsAtTop_28 rfl ?_
    refine gb_icmp_ge 119 d_X6_partsAtTop_29 (by decide) (fun hc => ?_) (fun hc => ?_)
    · have h := gb_it hc h
      refine gb_aload_n d_X6_partsAtTop_119 rfl ?_
      refine gb_getr (r := 73) f_X6_46 (hS 63 _ rfl) rfl d_X6_partsAtTop_120 ?_
      refine gb_bipush 12 d_X6_partsAtTop_123 rfl ?_
      refine gb_lald_ 12 rfl (hS 73 _ rfl) (by unfold vp_in; decide) d_X6_partsAtTop_125 ?_
      cases h
      exact gb_lret d_X6_partsAtTop_126 rfl ⟨rfl, rfl, rfl⟩
    · have h := gb_if hc h
      refine gb_aload_n d_X6_partsAtTop_32 rfl ?_
      refine gb_getr (r := 73) f_X6_46 (hS 63 _ rfl) rfl d_X6_partsAtTop_33 ?_
      refine gb_bipush 12 d_X6_partsAtTop_36 rfl ?_
      refine gb_dup2 d_X6_partsAtTop_38 rfl rfl ?_
      refine gb_lald_ 12 rfl (hS 73 _ rfl) (by unfold vp_in; decide) d_X6_partsAtTop_39 ?_
      refine gb_aload_n d_X6_partsAtTop_40 rfl ?_
      refine gb_getr (r := 73) f_X6_46 (hS 63 _ rfl) rfl d_X6_partsAtTop_41 ?_
      refine gb_bipush 11 d_X6_partsAtTop_44 rfl ?_
      refine gb_lald_ 11 rfl (hS 73 _ rfl) (by unfold vp_in; decide) d_X6_partsAtTop_46 ?_
      refine gb_iload_n d_X6_partsAtTop_47 rfl ?_
      refine gb_i2l d_X6_partsAtTop_48 ?_
      refine gb_lmul d_X6_partsAtTop_49 ?_
      refine gb_ldc2 10 k_X6_166 d_X6_partsAtTop_50 ?_
      refine gb_ldiv d_X6_partsAtTop_53 (by decide) ?_
      refine gb_ladd d_X6_partsAtTop_54 ?_
      refine gb_last_ 12 rfl (hS 73 _ rfl) (by unfold vp_in; decide) d_X6_partsAtTop_55 ?_
      have h := gb_let_e h
      generalize gb_pj g 73 12 ((g.2.1 73 12) + (((g.2.1 73 11) * y2.toInt64) / 10)) = g7 at h ⊢
      refine gb_bipush 11 d_X6_partsAtTop_56 rfl ?_
      refine gb_istore [(5, .int 11), (0, .ref 63), (2, .int y2), (3, .int y3), (4, .int y4)] d_X6_partsAtTop_58 (Nat.le_of_ble_eq_true rfl) rfl ?_
      refine gb_pick (lv' := [(0, .ref 63), (2, .int y2), (3, .int y3), (4, .int y4), (5, .int 11)]) [1, 2, 3, 4, 0] rfl ?_
      exact t_X6_partsAtTop_60 hS (fun w w0 w1 w2 hw => ih w w0 w1 w2 hw) gb_N _ y2 y3 y4 11 h
set_option maxRecDepth 100000 in
set_option maxHeartbeats 4000000 in
theorem t_X6_partsAtTop {Γ : gb_X} {sh : List gb_Sh} {x1 : Int32} {x2 : Int32} {x3 : Int32} {out : gb_G × Int64} (hS : gb_S sh) {g : gb_G} (h : f_X6_partsAtTop sh g x1 x2 x3 = some out) : gb_C Γ M_X6_partsAtTop 2 0 0 sh g [.ref 63, .int x1, .int x2, .int x3] (gb_Rl sh out) := by
  refine gb_C.of rfl (Nat.le_of_ble_eq_true rfl) ?_
  refine gb_pick (lv' := [(0, .ref 63), (1, .int x1), (2, .int x2), (3, .int x3)]) [0, 1, 2, 3] rfl ?_
  unfold f_X6_partsAtTop at h
  refine gb_aload_n d_X6_partsAtTop_0 rfl ?_
  refine gb_getr (r := 73) f_X6_46 (hS 63 _ rfl) rfl d_X6_partsAtTop_1 ?_
  refine gb_lconst 0 d_X6_partsAtTop_4 rfl ?_
  obtain ⟨r1, e2, h⟩ := gb_bd_e h
  refine gb_cSv (As := [.ref 73, .long 0]) (rest := []) m_X6_158 (t_J7_fill_d0a16 (Γ := Γ) hS (hS 73 _ rfl) e2) (Nat.le_of_ble_eq_true rfl) rfl rfl (Nat.le_of_ble_eq_true rfl) d_X6_partsAtTop_5 ?_
  refine gb_aload_n d_X6_partsAtTop_8 rfl ?_
  refine gb_getr (r := 73) f_X6_46 (hS 63 _ rfl) rfl d_X6_partsAtTop_9 ?_
  refine gb_iload_n d_X6_partsAtTop_12 rfl ?_
  refine gb_iconst 0 d_X6_partsAtTop_13 rfl ?_
  refine gb_bipush 12 d_X6_partsAtTop_14 rfl ?_
  obtain ⟨r3, e4, h⟩ := gb_bd_e h
  refine gb_cSNi (As := [.int x1, .int 0, .int 12]) (rest := [.ref 73]) m_X6_97 (t_X10_nearest (Γ := Γ) hS e4) (Nat.le_of_ble_eq_true rfl) rfl rfl (Nat.le_of_ble_eq_true rfl) d_X6_partsAtTop_16 ?_
  refine gb_ldc2 1000000000000 k_X6_164 d_X6_partsAtTop_19 ?_
  obtain ⟨hi5, h⟩ := gb_ck_e h
  refine gb_last_ r3.2.toNatClampNeg rfl (hS 73 _ rfl) hi5 d_X6_partsAtTop_22 ?_
  have h := gb_let_e h
  generalize gb_pj r3.1 73 r3.2.toNatClampNeg 1000000000000 = g6 at h ⊢
  refine gb_iconst 0 d_X6_partsAtTop_23 rfl ?_
  refine gb_istore [(4, .int 0), (0, .ref 63), (1, .int x1), (2, .int x2), (3, .int x3)] d_X6_partsAtTop_24 (Nat.le_of_ble_eq_true rfl) rfl ?_
  refine gb_pick (lv' := [(0, .ref 63), (2, .int x2), (3, .int x3), (4, .int 0)]) [1, 3, 4, 0] rfl ?_
  exact t_X6_partsAtTop_26 hS  gb_N _ x2 x3 0 h
-- X7_clear
noncomputable def f_X7_clear (sh : List gb_Sh) (g : gb_G) (b : Nat) : Option (gb_G) := gb_let (gb_pi g b 0 0) (fun g1 => gb_let (gb_pi g1 b 3 0) (fun g2 => gb_let (gb_pi g2 b 7 0) (fun g3 => some g3)))
set_option maxRecDepth 100000 in
set_option maxHeartbeats 4000000 in
theorem t_X7_clear {Γ : gb_X} {sh : List gb_Sh} {b : Nat} {out : gb_G} (hS : gb_S sh) (h_b : gb_okX7 sh b) {g : gb_G} (h : f_X7_clear sh g b = some out) : gb_C Γ M_X7_clear 0 0 0 sh g [.ref b] (gb_Rv sh out) := by
  refine gb_C.of rfl (Nat.le_of_ble_eq_true rfl) ?_
  refine gb_pick (lv' := [(0, .ref b)]) [0] rfl ?_
  unfold f_X7_clear at h
  refine gb_aload_n d_X7_clear_0 rfl ?_
  refine gb_iconst 0 d_X7_clear_1 rfl ?_
  refine gb_puti f_X7_9 (fun h => nomatch h) h_b.1 rfl rfl rfl d_X7_clear_2 ?_
  have h := gb_let_e h
  generalize gb_pi g b 0 0 = g1 at h ⊢
  refine gb_aload_n d_X7_clear_5 rfl ?_
  refine gb_iconst 0 d_X7_clear_6 rfl ?_
  refine gb_puti f_X7_15 (fun h => nomatch h) h_b.1 rfl rfl rfl d_X7_clear_7 ?_
  have h := gb_let_e h
  generalize gb_pi g1 b 3 0 = g2 at h ⊢
  refine gb_aload_n d_X7_clear_10 rfl ?_
  refine gb_iconst 0 d_X7_clear_11 rfl ?_
  refine gb_puti f_X7_18 (fun h => nomatch h) h_b.1 rfl rfl rfl d_X7_clear_12 ?_
  have h := gb_let_e h
  generalize gb_pi g2 b 7 0 = g3 at h ⊢
  cases h
  exact gb_vret d_X7_clear_15 rfl ⟨rfl, rfl, rfl⟩
-- X7_beginClause
noncomputable def f_X7_beginClause (sh : List gb_Sh) (g : gb_G) (b : Nat) (x1 : Int32) : Option (gb_G) := if 12 ≤ (g.1 b 3) then (some g) else (gb_ck (g.1 b 3) (gb_ln sh (b + 3)) (gb_let (gb_pi g (b + 3) ((g.1 b 3).toNatClampNeg) x1) (fun g2 => gb_ck (g2.1 b 3) (gb_ln sh (b + 4)) (gb_let (gb_pi g2 (b + 4) ((g2.1 b 3).toNatClampNeg) 1) (fun g4 => some g4)))))
set_option maxRecDepth 100000 in
set_option maxHeartbeats 4000000 in
theorem t_X7_beginClause {Γ : gb_X} {sh : List gb_Sh} {b : Nat} {x1 : Int32} {out : gb_G} (hS : gb_S sh) (h_b : gb_okX7 sh b) {g : gb_G} (h : f_X7_beginClause sh g b x1 = some out) : gb_C Γ M_X7_beginClause 0 0 0 sh g [.ref b, .int x1] (gb_Rv sh out) := by
  refine gb_C.of rfl (Nat.le_of_ble_eq_true rfl) ?_
  refine gb_pick (lv' := [(0, .ref b), (1, .int x1)]) [0, 1] rfl ?_
  unfold f_X7_beginClause at h
  refine gb_aload_n d_X7_beginClause_0 rfl ?_
  refine gb_geti f_X7_15 h_b.1 rfl d_X7_beginClause_1 ?_
  refine gb_bipush 12 d_X7_beginClause_4 rfl ?_
  refine gb_icmp_ge 29 d_X7_beginClause_6 (by decide) (fun hc => ?_) (fun hc => ?_)
  · have h := gb_it hc h
    cases h
    exact gb_vret d_X7_beginClause_29 rfl ⟨rfl, rfl, rfl⟩
  · have h := gb_if hc h
    refine gb_aload_n d_X7_beginClause_9 rfl ?_
    refine gb_getr (r := (b + 3)) f_X7_29 h_b.1 rfl d_X7_beginClause_10 ?_
    refine gb_aload_n d_X7_beginClause_13 rfl ?_
    refine gb_geti f_X7_15 h_b.1 rfl d_X7_beginClause_14 ?_
    refine gb_iload_n d_X7_beginClause_17 rfl ?_
    obtain ⟨hi1, h⟩ := gb_ck_e h
    refine gb_iast_ ((g.1 b 3).toNatClampNeg) rfl h_b.2.2.2.1 hi1 d_X7_beginClause_18 ?_
    have h := gb_let_e h
    generalize gb_pi g (b + 3) ((g.1 b 3).toNatClampNeg) x1 = g2 at h ⊢
    refine gb_aload_n d_X7_beginClause_19 rfl ?_
    refine gb_getr (r := (b + 4)) f_X7_32 h_b.1 rfl d_X7_beginClause_20 ?_
    refine gb_aload_n d_X7_beginClause_23 rfl ?_
    refine gb_geti f_X7_15 h_b.1 rfl d_X7_beginClause_24 ?_
    refine gb_iconst 1 d_X7_beginClause_27 rfl ?_
    obtain ⟨hi3, h⟩ := gb_ck_e h
    refine gb_iast_ ((g2.1 b 3).toNatClampNeg) rfl h_b.2.2.2.2.1 hi3 d_X7_beginClause_28 ?_
    have h := gb_let_e h
    generalize gb_pi g2 (b + 4) ((g2.1 b 3).toNatClampNeg) 1 = g4 at h ⊢
    cases h
    exact gb_vret d_X7_beginClause_29 rfl ⟨rfl, rfl, rfl⟩
-- X7_endPiece
noncomputable def f_X7_endPiece (sh : List gb_Sh) (g : gb_G) (b : Nat) (x1 : Int32) : Option (gb_G) := gb_bd (f_X10_within sh g ((((g.1 b 3) * 3) + x1) + 1) 0 ((Int32.ofNat (gb_ln sh (b + 5))) - 1)) (fun r1 => if r1.2 = 0 then (some r1.1) else (gb_ck ((((g.1 b 3) * 3) + x1) + 1) (gb_ln sh (b + 5)) (gb_let (gb_pi r1.1 (b + 5) (((((g.1 b 3) * 3) + x1) + 1).toNatClampNeg) (r1.1.1 b 0)) (fun g4 => some g4))))
set_option maxRecDepth 100000 in
set_option maxHeartbeats 4000000 in
theorem t_X7_endPiece {Γ : gb_X} {sh : List gb_Sh} {b : Nat} {x1 : Int32} {out : gb_G} (hS : gb_S sh) (h_b : gb_okX7 sh b) {g : gb_G} (h : f_X7_endPiece sh g b x1 = some out) : gb_C Γ M_X7_endPiece 1 0 0 sh g [.ref b, .int x1] (gb_Rv sh out) := by
  refine gb_C.of rfl (Nat.le_of_ble_eq_true rfl) ?_
  refine gb_pick (lv' := [(0, .ref b), (1, .int x1)]) [0, 1] rfl ?_
  unfold f_X7_endPiece at h
  refine gb_aload_n d_X7_endPiece_0 rfl ?_
  refine gb_geti f_X7_15 h_b.1 rfl d_X7_endPiece_1 ?_
  refine gb_iconst 3 d_X7_endPiece_4 rfl ?_
  refine gb_imul d_X7_endPiece_5 ?_
  refine gb_iload_n d_X7_endPiece_6 rfl ?_
  refine gb_iadd d_X7_endPiece_7 ?_
  refine gb_iconst 1 d_X7_endPiece_8 rfl ?_
  refine gb_iadd d_X7_endPiece_9 ?_
  refine gb_istore_n [(2, .int ((((g.1 b 3) * 3) + x1) + 1)), (0, .ref b), (1, .int x1)] d_X7_endPiece_10 (Nat.le_of_ble_eq_true rfl) rfl ?_
  refine gb_iload_n d_X7_endPiece_11 rfl ?_
  refine gb_iconst 0 d_X7_endPiece_12 rfl ?_
  refine gb_aload_n d_X7_endPiece_13 rfl ?_
  refine gb_getr (r := (b + 5)) f_X7_35 h_b.1 rfl d_X7_endPiece_14 ?_
  refine gb_alen (Int32.ofNat (gb_ln sh (b + 5))) (by decide) h_b.2.2.2.2.2 rfl d_X7_endPiece_17 ?_
  refine gb_iconst 1 d_X7_endPiece_18 rfl ?_
  refine gb_isub d_X7_endPiece_19 ?_
  obtain ⟨r1, e2, h⟩ := gb_bd_e h
  refine gb_cSNi (As := [.int ((((g.1 b 3) * 3) + x1) + 1), .int 0, .int ((Int32.ofNat (gb_ln sh (b + 5))) - 1)]) (rest := []) m_X7_48 (t_X10_within (Γ := Γ) hS e2) (Nat.le_of_ble_eq_true rfl) rfl rfl (Nat.le_of_ble_eq_true rfl) d_X7_endPiece_20 ?_
  refine gb_if_eq 36 d_X7_endPiece_23 (by decide) (fun hc => ?_) (fun hc => ?_)
  · have h := gb_it hc h
    cases h
    exact gb_vret d_X7_endPiece_36 rfl ⟨rfl, rfl, rfl⟩
  · have h := gb_if hc h
    refine gb_aload_n d_X7_endPiece_26 rfl ?_
    refine gb_getr (r := (b + 5)) f_X7_35 h_b.1 rfl d_X7_endPiece_27 ?_
    refine gb_iload_n d_X7_endPiece_30 rfl ?_
    refine gb_aload_n d_X7_endPiece_31 rfl ?_
    refine gb_geti f_X7_9 h_b.1 rfl d_X7_endPiece_32 ?_
    obtain ⟨hi3, h⟩ := gb_ck_e h
    refine gb_iast_ (((((g.1 b 3) * 3) + x1) + 1).toNatClampNeg) rfl h_b.2.2.2.2.2 hi3 d_X7_endPiece_35 ?_
    have h := gb_let_e h
    generalize gb_pi r1.1 (b + 5) (((((g.1 b 3) * 3) + x1) + 1).toNatClampNeg) (r1.1.1 b 0) = g4 at h ⊢
    cases h
    exact gb_vret d_X7_endPiece_36 rfl ⟨rfl, rfl, rfl⟩
-- X7_emit
noncomputable def f_X7_emit (sh : List gb_Sh) (g : gb_G) (b : Nat) (x1 : Int32) (x2 : Int32) : Option (gb_G × Int32) := if (Int32.ofNat (gb_ln sh (b + 1))) ≤ (g.1 b 0) then (some (g, (g.1 b 0))) else (if (Int32.ofNat (gb_ln sh (b + 2))) ≤ (g.1 b 0) then (some (g, (g.1 b 0))) else (gb_ck (g.1 b 0) (gb_ln sh (b + 1)) (gb_let (gb_pi g (b + 1) ((g.1 b 0).toNatClampNeg) x1) (fun g2 => gb_ck (g.1 b 0) (gb_ln sh (b + 2)) (gb_let (gb_pi g2 (b + 2) ((g.1 b 0).toNatClampNeg) x2) (fun g4 => gb_let (gb_pi g4 b 0 ((g4.1 b 0) + 1)) (fun g5 => some (g5, (g.1 b 0)))))))))
set_option maxRecDepth 100000 in
set_option maxHeartbeats 4000000 in
theorem t_X7_emit {Γ : gb_X} {sh : List gb_Sh} {b : Nat} {x1 : Int32} {x2 : Int32} {out : gb_G × Int32} (hS : gb_S sh) (h_b : gb_okX7 sh b) {g : gb_G} (h : f_X7_emit sh g b x1 x2 = some out) : gb_C Γ M_X7_emit 0 0 0 sh g [.ref b, .int x1, .int x2] (gb_Ri sh out) := by
  refine gb_C.of rfl (Nat.le_of_ble_eq_true rfl) ?_
  refine gb_pick (lv' := [(0, .ref b), (1, .int x1), (2, .int x2)]) [0, 1, 2] rfl ?_
  unfold f_X7_emit at h
  refine gb_aload_n d_X7_emit_0 rfl ?_
  refine gb_geti f_X7_9 h_b.1 rfl d_X7_emit_1 ?_
  refine gb_istore_n [(3, .int (g.1 b 0)), (0, .ref b), (1, .int x1), (2, .int x2)] d_X7_emit_4 (Nat.le_of_ble_eq_true rfl) rfl ?_
  refine gb_iload_n d_X7_emit_5 rfl ?_
  refine gb_aload_n d_X7_emit_6 rfl ?_
  refine gb_getr (r := (b + 1)) f_X7_22 h_b.1 rfl d_X7_emit_7 ?_
  refine gb_alen (Int32.ofNat (gb_ln sh (b + 1))) (by decide) h_b.2.1 rfl d_X7_emit_10 ?_
  refine gb_icmp_ge 47 d_X7_emit_11 (by decide) (fun hc => ?_) (fun hc => ?_)
  · have h := gb_it hc h
    refine gb_iload_n d_X7_emit_47 rfl ?_
    cases h
    exact gb_iret d_X7_emit_48 rfl ⟨rfl, rfl, rfl⟩
  · have h := gb_if hc h
    refine gb_iload_n d_X7_emit_14 rfl ?_
    refine gb_aload_n d_X7_emit_15 rfl ?_
    refine gb_getr (r := (b + 2)) f_X7_26 h_b.1 rfl d_X7_emit_16 ?_
    refine gb_alen (Int32.ofNat (gb_ln sh (b + 2))) (by decide) h_b.2.2.1 rfl d_X7_emit_19 ?_
    refine gb_icmp_ge 47 d_X7_emit_20 (by decide) (fun hc => ?_) (fun hc => ?_)
    · have h := gb_it hc h
      refine gb_iload_n d_X7_emit_47 rfl ?_
      cases h
      exact gb_iret d_X7_emit_48 rfl ⟨rfl, rfl, rfl⟩
    · have h := gb_if hc h
      refine gb_aload_n d_X7_emit_23 rfl ?_
      refine gb_getr (r := (b + 1)) f_X7_22 h_b.1 rfl d_X7_emit_24 ?_
      refine gb_iload_n d_X7_emit_27 rfl ?_
      refine gb_iload_n d_X7_emit_28 rfl ?_
      obtain ⟨hi1, h⟩ := gb_ck_e h
      refine gb_iast_ ((g.1 b 0).toNatClampNeg) rfl h_b.2.1 hi1 d_X7_emit_29 ?_
      have h := gb_let_e h
      generalize gb_pi g (b + 1) ((g.1 b 0).toNatClampNeg) x1 = g2 at h ⊢
      refine gb_aload_n d_X7_emit_30 rfl ?_
      refine gb_getr (r := (b + 2)) f_X7_26 h_b.1 rfl d_X7_emit_31 ?_
      refine gb_iload_n d_X7_emit_34 rfl ?_
      refine gb_iload_n d_X7_emit_35 rfl ?_
      obtain ⟨hi3, h⟩ := gb_ck_e h
      refine gb_iast_ ((g.1 b 0).toNatClampNeg) rfl h_b.2.2.1 hi3 d_X7_emit_36 ?_
      have h := gb_let_e h
      generalize gb_pi g2 (b + 2) ((g.1 b 0).toNatClampNeg) x2 = g4 at h ⊢
      refine gb_aload_n d_X7_emit_37 rfl ?_
      refine gb_dup d_X7_emit_38 rfl ?_
      refine gb_geti f_X7_9 h_b.1 rfl d_X7_emit_39 ?_
      refine gb_iconst 1 d_X7_emit_42 rfl ?_
      refine gb_iadd d_X7_emit_43 ?_
      refine gb_puti f_X7_9 (fun h => nomatch h) h_b.1 rfl rfl rfl d_X7_emit_44 ?_
      have h := gb_let_e h
      generalize gb_pi g4 b 0 ((g4.1 b 0) + 1) = g5 at h ⊢
      refine gb_iload_n d_X7_emit_47 rfl ?_
      cases h
      exact gb_iret d_X7_emit_48 rfl ⟨rfl, rfl, rfl⟩
-- X7_aimHere
noncomputable def f_X7_aimHere (sh : List gb_Sh) (g : gb_G) (b : Nat) (x1 : Int32) : Option (gb_G) := gb_bd (f_X10_within sh g x1 0 ((Int32.ofNat (gb_ln sh (b + 2))) - 1)) (fun r1 => if r1.2 = 0 then (some r1.1) else (gb_ck x1 (gb_ln sh (b + 2)) (gb_let (gb_pi r1.1 (b + 2) x1.toNatClampNeg (r1.1.1 b 0)) (fun g4 => some g4))))
set_option maxRecDepth 100000 in
set_option maxHeartbeats 4000000 in
theorem t_X7_aimHere {Γ : gb_X} {sh : List gb_Sh} {b : Nat} {x1 : Int32} {out : gb_G} (hS : gb_S sh) (h_b : gb_okX7 sh b) {g : gb_G} (h : f_X7_aimHere sh g b x1 = some out) : gb_C Γ M_X7_aimHere 1 0 0 sh g [.ref b, .int x1] (gb_Rv sh out) := by
  refine gb_C.of rfl (Nat.le_of_ble_eq_true rfl) ?_
  refine gb_pick (lv' := [(0, .ref b), (1, .int x1)]) [0, 1] rfl ?_
  unfold f_X7_aimHere at h
  refine gb_iload_n d_X7_aimHere_0 rfl ?_
  refine gb_iconst 0 d_X7_aimHere_1 rfl ?_
  refine gb_aload_n d_X7_aimHere_2 rfl ?_
  refine gb_getr (r := (b + 2)) f_X7_26 h_b.1 rfl d_X7_aimHere_3 ?_
  refine gb_alen (Int32.ofNat (gb_ln sh (b + 2))) (by decide) h_b.2.2.1 rfl d_X7_aimHere_6 ?_
  refine gb_iconst 1 d_X7_aimHere_7 rfl ?_
  refine gb_isub d_X7_aimHere_8 ?_
  obtain ⟨r1, e2, h⟩ := gb_bd_e h
  refine gb_cSNi (As := [.int x1, .int 0, .int ((Int32.ofNat (gb_ln sh (b + 2))) - 1)]) (rest := []) m_X7_48 (t_X10_within (Γ := Γ) hS e2) (Nat.le_of_ble_eq_true rfl) rfl rfl (Nat.le_of_ble_eq_true rfl) d_X7_aimHere_9 ?_
  refine gb_if_eq 25 d_X7_aimHere_12 (by decide) (fun hc => ?_) (fun hc => ?_)
  · have h := gb_it hc h
    cases h
    exact gb_vret d_X7_aimHere_25 rfl ⟨rfl, rfl, rfl⟩
  · have h := gb_if hc h
    refine gb_aload_n d_X7_aimHere_15 rfl ?_
    refine gb_getr (r := (b + 2)) f_X7_26 h_b.1 rfl d_X7_aimHere_16 ?_
    refine gb_iload_n d_X7_aimHere_19 rfl ?_
    refine gb_aload_n d_X7_aimHere_20 rfl ?_
    refine gb_geti f_X7_9 h_b.1 rfl d_X7_aimHere_21 ?_
    obtain ⟨hi3, h⟩ := gb_ck_e h
    refine gb_iast_ x1.toNatClampNeg rfl h_b.2.2.1 hi3 d_X7_aimHere_24 ?_
    have h := gb_let_e h
    generalize gb_pi r1.1 (b + 2) x1.toNatClampNeg (r1.1.1 b 0) = g4 at h ⊢
    cases h
    exact gb_vret d_X7_aimHere_25 rfl ⟨rfl, rfl, rfl⟩
-- X9_byteAt
noncomputable def f_X9_byteAt (sh : List gb_Sh) (g : gb_G) (x1 : Int32) : Option (gb_G × Int32) := if x1 < 0 then (some (g, (-1))) else (if (g.1 43 1) ≤ x1 then (some (g, (-1))) else (if 400 ≤ x1 then (some (g, (-1))) else (gb_ck x1 400 (some (g, (g.1 44 x1.toNatClampNeg))))))
set_option maxRecDepth 100000 in
set_option maxHeartbeats 4000000 in
theorem t_X9_byteAt {Γ : gb_X} {sh : List gb_Sh} {x1 : Int32} {out : gb_G × Int32} (hS : gb_S sh) {g : gb_G} (h : f_X9_byteAt sh g x1 = some out) : gb_C Γ M_X9_byteAt 0 0 0 sh g [.ref 43, .int x1] (gb_Ri sh out) := by
  refine gb_C.of rfl (Nat.le_of_ble_eq_true rfl) ?_
  refine gb_pick (lv' := [(0, .ref 43), (1, .int x1)]) [0, 1] rfl ?_
  unfold f_X9_byteAt at h
  refine gb_iload_n d_X9_byteAt_0 rfl ?_
  refine gb_if_lt 28 d_X9_byteAt_1 (by decide) (fun hc => ?_) (fun hc => ?_)
  · have h := gb_it hc h
    refine gb_iconst (-1) d_X9_byteAt_28 rfl ?_
    cases h
    exact gb_iret d_X9_byteAt_29 rfl ⟨rfl, rfl, rfl⟩
  · have h := gb_if hc h
    refine gb_iload_n d_X9_byteAt_4 rfl ?_
    refine gb_aload_n d_X9_byteAt_5 rfl ?_
    refine gb_geti f_X9_15 (hS 43 _ rfl) rfl d_X9_byteAt_6 ?_
    refine gb_icmp_ge 28 d_X9_byteAt_9 (by decide) (fun hc => ?_) (fun hc => ?_)
    · have h := gb_it hc h
      refine gb_iconst (-1) d_X9_byteAt_28 rfl ?_
      cases h
      exact gb_iret d_X9_byteAt_29 rfl ⟨rfl, rfl, rfl⟩
    · have h := gb_if hc h
      refine gb_iload_n d_X9_byteAt_12 rfl ?_
      refine gb_sipush 400 d_X9_byteAt_13 rfl ?_
      refine gb_icmp_ge 28 d_X9_byteAt_16 (by decide) (fun hc => ?_) (fun hc => ?_)
      · have h := gb_it hc h
        refine gb_iconst (-1) d_X9_byteAt_28 rfl ?_
        cases h
        exact gb_iret d_X9_byteAt_29 rfl ⟨rfl, rfl, rfl⟩
      · have h := gb_if hc h
        refine gb_aload_n d_X9_byteAt_19 rfl ?_
        refine gb_getr (r := 44) f_X9_9 (hS 43 _ rfl) rfl d_X9_byteAt_20 ?_
        refine gb_iload_n d_X9_byteAt_23 rfl ?_
        obtain ⟨hi1, h⟩ := gb_ck_e h
        refine gb_iald_ x1.toNatClampNeg rfl (hS 44 _ rfl) hi1 d_X9_byteAt_24 ?_
        refine gb_goto 29 d_X9_byteAt_25 (by decide) ?_
        cases h
        exact gb_iret d_X9_byteAt_29 rfl ⟨rfl, rfl, rfl⟩
-- X9_kindOf
noncomputable def f_X9_kindOf_14 (sh : List gb_Sh) (g : gb_G) (y0 : Int32) : Option (gb_G × Int32) := if y0 < 48 then (some (g, 0)) else (if 57 < y0 then (some (g, 0)) else (some (g, 2)))
noncomputable def f_X9_kindOf (sh : List gb_Sh) (g : gb_G) (x1 : Int32) : Option (gb_G × Int32) := if x1 < 97 then (f_X9_kindOf_14 sh g x1) else (if 122 < x1 then (f_X9_kindOf_14 sh g x1) else (some (g, 1)))
set_option maxRecDepth 100000 in
set_option maxHeartbeats 4000000 in
theorem t_X9_kindOf_14 {Γ : gb_X} {sh : List gb_Sh} {out : gb_G × Int32} (hS : gb_S sh) : ∀ (g : gb_G) (y0 : Int32), f_X9_kindOf_14 sh g y0 = some out → gb_J Γ M_X9_kindOf 0 (gb_Ri sh out) 0 0 sh g 14 [(0, .int y0)] [] := by
  intro g y0 h
  unfold f_X9_kindOf_14 at h
  refine gb_iload_n d_X9_kindOf_14 rfl ?_
  refine gb_bipush 48 d_X9_kindOf_15 rfl ?_
  refine gb_icmp_lt 30 d_X9_kindOf_17 (by decide) (fun hc => ?_) (fun hc => ?_)
  · have h := gb_it hc h
    refine gb_iconst 0 d_X9_kindOf_30 rfl ?_
    cases h
    exact gb_iret d_X9_kindOf_31 rfl ⟨rfl, rfl, rfl⟩
  · have h := gb_if hc h
    refine gb_iload_n d_X9_kindOf_20 rfl ?_
    refine gb_bipush 57 d_X9_kindOf_21 rfl ?_
    refine gb_icmp_gt 30 d_X9_kindOf_23 (by decide) (fun hc => ?_) (fun hc => ?_)
    · have h := gb_it hc h
      refine gb_iconst 0 d_X9_kindOf_30 rfl ?_
      cases h
      exact gb_iret d_X9_kindOf_31 rfl ⟨rfl, rfl, rfl⟩
    · have h := gb_if hc h
      refine gb_iconst 2 d_X9_kindOf_26 rfl ?_
      refine gb_goto 31 d_X9_kindOf_27 (by decide) ?_
      cases h
      exact gb_iret d_X9_kindOf_31 rfl ⟨rfl, rfl, rfl⟩
set_option maxRecDepth 100000 in
set_option maxHeartbeats 4000000 in
theorem t_X9_kindOf {Γ : gb_X} {sh : List gb_Sh} {x1 : Int32} {out : gb_G × Int32} (hS : gb_S sh) {g : gb_G} (h : f_X9_kindOf sh g x1 = some out) : gb_C Γ M_X9_kindOf 0 0 0 sh g [.int x1] (gb_Ri sh out) := by
  refine gb_C.of rfl (Nat.le_of_ble_eq_true rfl) ?_
  refine gb_pick (lv' := [(0, .int x1)]) [0] rfl ?_
  unfold f_X9_kindOf at h
  refine gb_iload_n d_X9_kindOf_0 rfl ?_
  refine gb_bipush 97 d_X9_kindOf_1 rfl ?_
  refine gb_icmp_lt 14 d_X9_kindOf_3 (by decide) (fun hc => ?_) (fun hc => ?_)
  · have h := gb_it hc h
    exact t_X9_kindOf_14 hS  _ x1 h
  · have h := gb_if hc h
    refine gb_iload_n d_X9_kindOf_6 rfl ?_
    refine gb_bipush 122 d_X9_kindOf_7 rfl ?_
    refine gb_icmp_gt 14 d_X9_kindOf_9 (by decide) (fun hc => ?_) (fun hc => ?_)
    · have h := gb_it hc h
      exact t_X9_kindOf_14 hS  _ x1 h
    · have h := gb_if hc h
      refine gb_iconst 1 d_X9_kindOf_12 rfl ?_
      cases h
      exact gb_iret d_X9_kindOf_13 rfl ⟨rfl, rfl, rfl⟩
-- X9_step
noncomputable def f_X9_step_77 (sh : List gb_Sh) : Nat → gb_G → Option (gb_G)
  | 0, _ => none
  | n + 1, g => if (g.1 43 4) = 0 then (some g) else (if (g.1 43 1) ≤ (g.1 43 3) then (some g) else (gb_bd (f_X9_byteAt sh g (g.1 43 3)) (fun r10 => gb_bd (f_X9_kindOf sh r10.1 r10.2) (fun r12 => if r12.2 = (r12.1.1 43 4) then (gb_let (gb_pi r12.1 43 3 ((r12.1.1 43 3) + 1)) (fun g14 => f_X9_step_77 sh n g14 )) else (some r12.1)))))
noncomputable def f_X9_step_45 (sh : List gb_Sh) (g : gb_G)  : Option (gb_G) := gb_bd (f_X9_byteAt sh g (g.1 43 2)) (fun r2 => gb_bd (f_X9_kindOf sh r2.1 r2.2) (fun r4 => gb_let (gb_pi r4.1 43 4 r4.2) (fun g6 => gb_bd (f_J9_min_7cf53 sh g6 (g6.1 43 1) ((g6.1 43 2) + 1)) (fun r7 => gb_let (gb_pi r7.1 43 3 r7.2) (fun g9 => f_X9_step_77 sh gb_N g9 )))))
noncomputable def f_X9_step_8 (sh : List gb_Sh) : Nat → gb_G → Option (gb_G)
  | 0, _ => none
  | n + 1, g => if (g.1 43 1) ≤ (g.1 43 2) then (f_X9_step_45 sh g ) else (gb_bd (f_X9_byteAt sh g (g.1 43 2)) (fun r15 => if r15.2 = 32 then (gb_let (gb_pi r15.1 43 2 ((r15.1.1 43 2) + 1)) (fun g17 => f_X9_step_8 sh n g17 )) else (f_X9_step_45 sh r15.1 )))
noncomputable def f_X9_step (sh : List gb_Sh) (g : gb_G) : Option (gb_G) := gb_let (gb_pi g 43 2 (g.1 43 3)) (fun g1 => f_X9_step_8 sh gb_N g1 )
set_option maxRecDepth 100000 in
set_option maxHeartbeats 4000000 in
theorem t_X9_step_77 {Γ : gb_X} {sh : List gb_Sh} {out : gb_G} (hS : gb_S sh) : ∀ (n : Nat) (g : gb_G) , f_X9_step_77 sh n g  = some out → gb_J Γ M_X9_step 1 (gb_Rv sh out) 0 0 sh g 77 [(0, .ref 43)] [] := by
  intro n
  induction n with
  | zero => intro g  h; cases h
  | succ n ih =>
    intro g  h
    rw [f_X9_step_77] at h
    refine gb_aload_n d_X9_step_77 rfl ?_
    refine gb_geti f_X9_25 (hS 43 _ rfl) rfl d_X9_step_78 ?_
    refine gb_if_eq 126 d_X9_step_81 (by decide) (fun hc => ?_) (fun hc => ?_)
    · have h := gb_it hc h
      cases h
      exact gb_vret d_X9_step_126 rfl ⟨rfl, rfl, rfl⟩
    · have h := gb_if hc h
      refine gb_aload_n d_X9_step_84 rfl ?_
      refine gb_geti f_X9_22 (hS 43 _ rfl) rfl d_X9_step_85 ?_
      refine gb_aload_n d_X9_step_88 rfl ?_
      refine gb_geti f_X9_15 (hS 43 _ rfl) rfl d_X9_step_89 ?_
      refine gb_icmp_ge 126 d_X9_step_92 (by decide) (fun hc => ?_) (fun hc => ?_)
      · have h := gb_it hc h
        cases h
        exact gb_vret d_X9_step_126 rfl ⟨rfl, rfl, rfl⟩
      · have h := gb_if hc h
        refine gb_aload_n d_X9_step_95 rfl ?_
        refine gb_aload_n d_X9_step_96 rfl ?_
        refine gb_geti f_X9_22 (hS 43 _ rfl) rfl d_X9_step_97 ?_
        obtain ⟨r10, e11, h⟩ := gb_bd_e h
        refine gb_cVi (As := [.int (g.1 43 3)]) (rest := []) m_X9_31 (t_X9_byteAt (Γ := Γ) hS e11) (hS 43 _ rfl) rfl (Nat.le_of_ble_eq_true rfl) rfl rfl (Nat.le_of_ble_eq_true rfl) d_X9_step_100 ?_
        obtain ⟨r12, e13, h⟩ := gb_bd_e h
        refine gb_cSi (As := [.int r10.2]) (rest := []) m_X9_35 (t_X9_kindOf (Γ := Γ) hS e13) (Nat.le_of_ble_eq_true rfl) rfl rfl (Nat.le_of_ble_eq_true rfl) d_X9_step_103 ?_
        refine gb_aload_n d_X9_step_106 rfl ?_
        refine gb_geti f_X9_25 (hS 43 _ rfl) rfl d_X9_step_107 ?_
        refine gb_icmp_ne 126 d_X9_step_110 (by decide) (fun hc => ?_) (fun hc => ?_)
        · have h := gb_if hc h
          cases h
          exact gb_vret d_X9_step_126 rfl ⟨rfl, rfl, rfl⟩
        · have h := gb_it hc h
          refine gb_aload_n d_X9_step_113 rfl ?_
          refine gb_dup d_X9_step_114 rfl ?_
          refine gb_geti f_X9_22 (hS 43 _ rfl) rfl d_X9_step_115 ?_
          refine gb_iconst 1 d_X9_step_118 rfl ?_
          refine gb_iadd d_X9_step_119 ?_
          refine gb_puti f_X9_22 (fun h => nomatch h) (hS 43 _ rfl) rfl rfl rfl d_X9_step_120 ?_
          have h := gb_let_e h
          generalize gb_pi r12.1 43 3 ((r12.1.1 43 3) + 1) = g14 at h ⊢
          refine gb_goto 77 d_X9_step_123 (by decide) ?_
          exact ih _  h
set_option maxRecDepth 100000 in
set_option maxHeartbeats 4000000 in
theorem t_X9_step_45 {Γ : gb_X} {sh : List gb_Sh} {out : gb_G} (hS : gb_S sh) : ∀ (g : gb_G) , f_X9_step_45 sh g  = some out → gb_J Γ M_X9_step 1 (gb_Rv sh out) 0 0 sh g 45 [(0, .ref 43)] [] := by
  intro g  h
  unfold f_X9_step_45 at h
  refine gb_aload_n d_X9_step_45 rfl ?_
  refine gb_aload_n d_X9_step_46 rfl ?_
  refine gb_aload_n d_X9_step_47 rfl ?_
  refine gb_geti f_X9_19 (hS 43 _ rfl) rfl d_X9_step_48 ?_
  obtain ⟨r2, e3, h⟩ := gb_bd_e h
  refine gb_cVi (As := [.int (g.1 43 2)]) (rest := [.ref 43]) m_X9_31 (t_X9_byteAt (Γ := Γ) hS e3) (hS 43 _ rfl) rfl (Nat.le_of_ble_eq_true rfl) rfl rfl (Nat.le_of_ble_eq_true rfl) d_X9_step_51 ?_
  obtain ⟨r4, e5, h⟩ := gb_bd_e h
  refine gb_cSi (As := [.int r2.2]) (rest := [.ref 43]) m_X9_35 (t_X9_kindOf (Γ := Γ) hS e5) (Nat.le_of_ble_eq_true rfl) rfl rfl (Nat.le_of_ble_eq_true rfl) d_X9_step_54 ?_
  refine gb_puti f_X9_25 (fun h => nomatch h) (hS 43 _ rfl) rfl rfl rfl d_X9_step_57 ?_
  have h := gb_let_e h
  generalize gb_pi r4.1 43 4 r4.2 = g6 at h ⊢
  refine gb_aload_n d_X9_step_60 rfl ?_
  refine gb_aload_n d_X9_step_61 rfl ?_
  refine gb_geti f_X9_15 (hS 43 _ rfl) rfl d_X9_step_62 ?_
  refine gb_aload_n d_X9_step_65 rfl ?_
  refine gb_geti f_X9_19 (hS 43 _ rfl) rfl d_X9_step_66 ?_
  refine gb_iconst 1 d_X9_step_69 rfl ?_
  refine gb_iadd d_X9_step_70 ?_
  obtain ⟨r7, e8, h⟩ := gb_bd_e h
  refine gb_cSi (As := [.int (g6.1 43 1), .int ((g6.1 43 2) + 1)]) (rest := [.ref 43]) m_X9_38 (t_J9_min_7cf53 (Γ := Γ) hS e8) (Nat.le_of_ble_eq_true rfl) rfl rfl (Nat.le_of_ble_eq_true rfl) d_X9_step_71 ?_
  refine gb_puti f_X9_22 (fun h => nomatch h) (hS 43 _ rfl) rfl rfl rfl d_X9_step_74 ?_
  have h := gb_let_e h
  generalize gb_pi r7.1 43 3 r7.2 = g9 at h ⊢
  exact t_X9_step_77 hS  gb_N _  h
set_option maxRecDepth 100000 in
set_option maxHeartbeats 4000000 in
theorem t_X9_step_8 {Γ : gb_X} {sh : List gb_Sh} {out : gb_G} (hS : gb_S sh) : ∀ (n : Nat) (g : gb_G) , f_X9_step_8 sh n g  = some out → gb_J Γ M_X9_step 1 (gb_Rv sh out) 0 0 sh g 8 [(0, .ref 43)] [] := by
  intro n
  induction n with
  | zero => intro g  h; cases h
  | succ n ih =>
    intro g  h
    rw [f_X9_step_8] at h
    refine gb_aload_n d_X9_step_8 rfl ?_
    refine gb_geti f_X9_19 (hS 43 _ rfl) rfl d_X9_step_9 ?_
    refine gb_aload_n d_X9_step_12 rfl ?_
    refine gb_geti f_X9_15 (hS 43 _ rfl) rfl d_X9_step_13 ?_
    refine gb_icmp_ge 45 d_X9_step_16 (by decide) (fun hc => ?_) (fun hc => ?_)
    · have h := gb_it hc h
      exact t_X9_step_45 hS  _  h
    · have h := gb_if hc h
      refine gb_aload_n d_X9_step_19 rfl ?_
      refine gb_aload_n d_X9_step_20 rfl ?_
      refine gb_geti f_X9_19 (hS 43 _ rfl) rfl d_X9_step_21 ?_
      obtain ⟨r15, e16, h⟩ := gb_bd_e h
      refine gb_cVi (As := [.int (g.1 43 2)]) (rest := []) m_X9_31 (t_X9_byteAt (Γ := Γ) hS e16) (hS 43 _ rfl) rfl (Nat.le_of_ble_eq_true rfl) rfl rfl (Nat.le_of_ble_eq_true rfl) d_X9_step_24 ?_
      refine gb_bipush 32 d_X9_step_27 rfl ?_
      refine gb_icmp_ne 45 d_X9_step_29 (by decide) (fun hc => ?_) (fun hc => ?_)
      · have h := gb_if hc h
        exact t_X9_step_45 hS  _  h
      · have h := gb_it hc h
        refine gb_aload_n d_X9_step_32 rfl ?_
        refine gb_dup d_X9_step_33 rfl ?_
        refine gb_geti f_X9_19 (hS 43 _ rfl) rfl d_X9_step_34 ?_
        refine gb_iconst 1 d_X9_step_37 rfl ?_
        refine gb_iadd d_X9_step_38 ?_
        refine gb_puti f_X9_19 (fun h => nomatch h) (hS 43 _ rfl) rfl rfl rfl d_X9_step_39 ?_
        have h := gb_let_e h
        generalize gb_pi r15.1 43 2 ((r15.1.1 43 2) + 1) = g17 at h ⊢
        refine gb_goto 8 d_X9_step_42 (by decide) ?_
        exact ih _  h
set_option maxRecDepth 100000 in
set_option maxHeartbeats 4000000 in
theorem t_X9_step {Γ : gb_X} {sh : List gb_Sh} {out : gb_G} (hS : gb_S sh) {g : gb_G} (h : f_X9_step sh g = some out) : gb_C Γ M_X9_step 1 0 0 sh g [.ref 43] (gb_Rv sh out) := by
  refine gb_C.of rfl (Nat.le_of_ble_eq_true rfl) ?_
  refine gb_pick (lv' := [(0, .ref 43)]) [0] rfl ?_
  unfold f_X9_step at h
  refine gb_aload_n d_X9_step_0 rfl ?_
  refine gb_aload_n d_X9_step_1 rfl ?_
  refine gb_geti f_X9_22 (hS 43 _ rfl) rfl d_X9_step_2 ?_
  refine gb_puti f_X9_19 (fun h => nomatch h) (hS 43 _ rfl) rfl rfl rfl d_X9_step_5 ?_
  have h := gb_let_e h
  generalize gb_pi g 43 2 (g.1 43 3) = g1 at h ⊢
  exact t_X9_step_8 hS  gb_N _  h
-- J0_isLatin1_aae02
noncomputable def f_J0_isLatin1_aae02 (sh : List gb_Sh) (g : gb_G) (s0 : Nat) : Option (gb_G × Int32) := some (g, 1)
set_option maxRecDepth 100000 in
set_option maxHeartbeats 4000000 in
theorem t_J0_isLatin1_aae02 {Γ : gb_X} {sh : List gb_Sh} {s0 : Nat} {out : gb_G × Int32} (hS : gb_S sh) (h_s0 : s0 < 13) {g : gb_G} (h : f_J0_isLatin1_aae02 sh g s0 = some out) : gb_C Γ M_J0_isLatin1_aae02 0 0 0 sh g [.retAddr (2 + s0)] (gb_Ri sh out) := by
  refine gb_C.ofF (by decide +kernel) (Nat.le_of_ble_eq_true rfl) ?_
  refine gb_pick (lv' := [(0, .retAddr (2 + s0))]) [0] rfl ?_
  unfold f_J0_isLatin1_aae02 at h
  refine gb_gst (v := .int 1) (fun h => h.2.2.1) rf_J0_38 d_J0_isLatin1_aae02_0 ?_
  refine gb_if_eq 17 d_J0_isLatin1_aae02_3 (by decide) (fun hc => absurd hc (by decide)) (fun hc => ?_)
  refine gb_rload_n d_J0_isLatin1_aae02_6 rfl ?_
  refine gb_rget (v := .int 0) (gb_s_coder h_s0) rf_J0_15 d_J0_isLatin1_aae02_7 ?_
  refine gb_if_ne 17 d_J0_isLatin1_aae02_10 (by decide) (fun hc => absurd hc (by decide)) (fun hc => ?_)
  refine gb_iconst 1 d_J0_isLatin1_aae02_13 rfl ?_
  refine gb_goto 18 d_J0_isLatin1_aae02_14 (by decide) ?_
  cases h
  exact gb_zret d_J0_isLatin1_aae02_18 rfl rfl ⟨rfl, rfl, rfl⟩
-- J3_checkIndex_8e157
noncomputable def f_J3_checkIndex_8e157 (sh : List gb_Sh) (g : gb_G) (x1 : Int32) (x2 : Int32) : Option (gb_G × Int32) := if x1 < 0 then (none) else (if x1 < x2 then (some (g, x1)) else (none))
set_option maxRecDepth 100000 in
set_option maxHeartbeats 4000000 in
theorem t_J3_checkIndex_8e157 {Γ : gb_X} {sh : List gb_Sh} {v3 : Value} {x1 : Int32} {x2 : Int32} {out : gb_G × Int32} (hS : gb_S sh) (h_v3 : v3.category = 1) {g : gb_G} (h : f_J3_checkIndex_8e157 sh g x1 x2 = some out) : gb_C Γ M_J3_checkIndex_8e157 0 0 0 sh g [.int x1, .int x2, v3] (gb_Ri sh out) := by
  refine gb_C.ofF (by decide +kernel) (by cases v3 <;> first | exact Nat.le_of_ble_eq_true rfl | (simp [Value.category] at h_v3)) ?_
  refine gb_pick (lv' := [(0, .int x1), (1, .int x2), (2, v3)]) [0, 1, 2] rfl ?_
  unfold f_J3_checkIndex_8e157 at h
  refine gb_iload_n d_J3_checkIndex_8e157_0 rfl ?_
  refine gb_if_lt 9 d_J3_checkIndex_8e157_1 (by decide) (fun hc => ?_) (fun hc => ?_)
  · have h := gb_it hc h
    cases h
  · have h := gb_if hc h
    refine gb_iload_n d_J3_checkIndex_8e157_4 rfl ?_
    refine gb_iload_n d_J3_checkIndex_8e157_5 rfl ?_
    refine gb_icmp_lt 16 d_J3_checkIndex_8e157_6 (by decide) (fun hc => ?_) (fun hc => ?_)
    · have h := gb_it hc h
      refine gb_iload_n d_J3_checkIndex_8e157_16 rfl ?_
      cases h
      exact gb_iret d_J3_checkIndex_8e157_17 rfl ⟨rfl, rfl, rfl⟩
    · have h := gb_if hc h
      cases h
-- J0_checkIndex_df160
noncomputable def f_J0_checkIndex_df160 (sh : List gb_Sh) (g : gb_G) (x1 : Int32) (x2 : Int32) : Option (gb_G) := gb_bd (f_J3_checkIndex_8e157 sh g x1 x2) (fun r2 => some r2.1)
set_option maxRecDepth 100000 in
set_option maxHeartbeats 4000000 in
theorem t_J0_checkIndex_df160 {Γ : gb_X} {sh : List gb_Sh} {x1 : Int32} {x2 : Int32} {out : gb_G} (hS : gb_S sh) {g : gb_G} (h : f_J0_checkIndex_df160 sh g x1 x2 = some out) : gb_C Γ M_J0_checkIndex_df160 1 0 0 sh g [.int x1, .int x2] (gb_Rv sh out) := by
  refine gb_C.ofF (by decide +kernel) (Nat.le_of_ble_eq_true rfl) ?_
  refine gb_pick (lv' := [(0, .int x1), (1, .int x2)]) [0, 1] rfl ?_
  unfold f_J0_checkIndex_df160 at h
  refine gb_iload_n d_J0_checkIndex_df160_0 rfl ?_
  refine gb_iload_n d_J0_checkIndex_df160_1 rfl ?_
  refine gb_gstq (v0 := .null) (v1 := .retAddr 40) (fun h => h.2.2.2.1) rfl rfl rf_J0_1053 d_J0_checkIndex_df160_2 (fun v1 hv1 => ?_)
  obtain ⟨r2, e3, h⟩ := gb_bd_e h
  refine gb_cSi (As := [.int x1, .int x2, v1]) (rest := []) m_J0_1059 (t_J3_checkIndex_8e157 (Γ := Γ) hS hv1 e3) (Nat.le_of_ble_eq_true rfl) rfl rfl (Nat.le_of_ble_eq_true rfl) d_J0_checkIndex_df160_5 ?_
  refine gb_pop d_J0_checkIndex_df160_8 rfl ?_
  cases h
  exact gb_vret d_J0_checkIndex_df160_9 rfl ⟨rfl, rfl, rfl⟩
-- J1_charAt_3b067
noncomputable def f_J1_charAt_3b067 (sh : List gb_Sh) (g : gb_G) (s1 : Nat) (x2 : Int32) : Option (gb_G × Int32) := gb_bd (f_J0_checkIndex_df160 sh g x2 (Int32.ofNat (gb_sl.getD s1 0))) (fun r1 => gb_ck x2 (gb_sl.getD s1 0) (gb_nr .char (((((gb_sb.getD s1 []).getD x2.toNatClampNeg 0) &&& 255).toUInt32 % 65536).toInt32) (some (r1, ((((gb_sb.getD s1 []).getD x2.toNatClampNeg 0) &&& 255).toUInt32 % 65536).toInt32))))
set_option maxRecDepth 100000 in
set_option maxHeartbeats 4000000 in
theorem t_J1_charAt_3b067 {Γ : gb_X} {sh : List gb_Sh} {s1 : Nat} {x2 : Int32} {out : gb_G × Int32} (hS : gb_S sh) (h_s1 : s1 < 13) {g : gb_G} (h : f_J1_charAt_3b067 sh g s1 x2 = some out) : gb_C Γ M_J1_charAt_3b067 2 0 0 sh g [.retAddr (20 + s1), .int x2] (gb_Ri sh out) := by
  refine gb_C.ofF (by decide +kernel) (Nat.le_of_ble_eq_true rfl) ?_
  refine gb_pick (lv' := [(0, .retAddr (20 + s1)), (1, .int x2)]) [0, 1] rfl ?_
  unfold f_J1_charAt_3b067 at h
  refine gb_iload_n d_J1_charAt_3b067_0 rfl ?_
  refine gb_rload_n d_J1_charAt_3b067_1 rfl ?_
  refine gb_rlen (gb_s_bytes h_s1) d_J1_charAt_3b067_2 ?_
  obtain ⟨r1, e2, h⟩ := gb_bd_e h
  refine gb_cSv (As := [.int x2, .int (Int32.ofNat (gb_sl.getD s1 0))]) (rest := []) m_J1_9 (t_J0_checkIndex_df160 (Γ := Γ) hS e2) (Nat.le_of_ble_eq_true rfl) rfl rfl (Nat.le_of_ble_eq_true rfl) d_J1_charAt_3b067_3 ?_
  refine gb_rload_n d_J1_charAt_3b067_6 rfl ?_
  refine gb_iload_n d_J1_charAt_3b067_7 rfl ?_
  obtain ⟨hi3, h⟩ := gb_ck_e h
  refine gb_rbald (gb_s_bytes h_s1) hi3 d_J1_charAt_3b067_8 ?_
  refine gb_sipush 255 d_J1_charAt_3b067_9 rfl ?_
  refine gb_iand d_J1_charAt_3b067_12 ?_
  refine gb_i2c d_J1_charAt_3b067_13 ?_
  obtain ⟨hb4, h⟩ := gb_nr_e h
  cases h
  exact gb_nret d_J1_charAt_3b067_14 rfl hb4 ⟨rfl, rfl, rfl⟩
-- J0_charAt_5068e
noncomputable def f_J0_charAt_5068e (sh : List gb_Sh) (g : gb_G) (s0 : Nat) (x1 : Int32) : Option (gb_G × Int32) := gb_bd (f_J0_isLatin1_aae02 sh g s0) (fun r1 => if r1.2 = 0 then (none) else (gb_bd (f_J1_charAt_3b067 sh r1.1 s0 x1) (fun r3 => gb_nr .char r3.2 (some (r3.1, r3.2)))))
set_option maxRecDepth 100000 in
set_option maxHeartbeats 4000000 in
theorem t_J0_charAt_5068e {Γ : gb_X} {sh : List gb_Sh} {s0 : Nat} {x1 : Int32} {out : gb_G × Int32} (hS : gb_S sh) (h_s0 : s0 < 13) {g : gb_G} (h : f_J0_charAt_5068e sh g s0 x1 = some out) : gb_C Γ M_J0_charAt_5068e 4 0 0 sh g [.retAddr (2 + s0), .int x1] (gb_Ri sh out) := by
  refine gb_C.ofF (by decide +kernel) (Nat.le_of_ble_eq_true rfl) ?_
  refine gb_pick (lv' := [(0, .retAddr (2 + s0)), (1, .int x1)]) [0, 1] rfl ?_
  unfold f_J0_charAt_5068e at h
  refine gb_rload_n d_J0_charAt_5068e_0 rfl ?_
  obtain ⟨r1, e2, h⟩ := gb_bd_e h
  refine gb_cVSi (As := []) (rest := []) h_s0 rfl m_J0_492 (t_J0_isLatin1_aae02 (Γ := Γ) hS h_s0 e2) (Nat.le_of_ble_eq_true rfl) rfl rfl (Nat.le_of_ble_eq_true rfl) d_J0_charAt_5068e_1 ?_
  refine gb_if_eq 16 d_J0_charAt_5068e_4 (by decide) (fun hc => ?_) (fun hc => ?_)
  · have h := gb_it hc h
    cases h
  · have h := gb_if hc h
    refine gb_rload_n d_J0_charAt_5068e_7 rfl ?_
    refine gb_rget (v := .retAddr (20 + s0)) (gb_s_value h_s0) rf_J0_9 d_J0_charAt_5068e_8 ?_
    refine gb_iload_n d_J0_charAt_5068e_11 rfl ?_
    obtain ⟨r3, e4, h⟩ := gb_bd_e h
    refine gb_cSi (As := [.retAddr (20 + s0), .int x1]) (rest := []) m_J0_495 (t_J1_charAt_3b067 (Γ := Γ) hS h_s0 e4) (Nat.le_of_ble_eq_true rfl) rfl rfl (Nat.le_of_ble_eq_true rfl) d_J0_charAt_5068e_12 ?_
    obtain ⟨hb5, h⟩ := gb_nr_e h
    cases h
    exact gb_nret d_J0_charAt_5068e_15 rfl hb5 ⟨rfl, rfl, rfl⟩
-- J0_coder_7d493
noncomputable def f_J0_coder_7d493 (sh : List gb_Sh) (g : gb_G) (s0 : Nat) : Option (gb_G × Int32) := some (g, 0)
set_option maxRecDepth 100000 in
set_option maxHeartbeats 4000000 in
theorem t_J0_coder_7d493 {Γ : gb_X} {sh : List gb_Sh} {s0 : Nat} {out : gb_G × Int32} (hS : gb_S sh) (h_s0 : s0 < 13) {g : gb_G} (h : f_J0_coder_7d493 sh g s0 = some out) : gb_C Γ M_J0_coder_7d493 0 0 0 sh g [.retAddr (2 + s0)] (gb_Ri sh out) := by
  refine gb_C.ofF (by decide +kernel) (Nat.le_of_ble_eq_true rfl) ?_
  refine gb_pick (lv' := [(0, .retAddr (2 + s0))]) [0] rfl ?_
  unfold f_J0_coder_7d493 at h
  refine gb_gst (v := .int 1) (fun h => h.2.2.1) rf_J0_38 d_J0_coder_7d493_0 ?_
  refine gb_if_eq 13 d_J0_coder_7d493_3 (by decide) (fun hc => absurd hc (by decide)) (fun hc => ?_)
  refine gb_rload_n d_J0_coder_7d493_6 rfl ?_
  refine gb_rget (v := .int 0) (gb_s_coder h_s0) rf_J0_15 d_J0_coder_7d493_7 ?_
  refine gb_goto 14 d_J0_coder_7d493_10 (by decide) ?_
  cases h
  exact gb_nret d_J0_coder_7d493_14 rfl rfl ⟨rfl, rfl, rfl⟩
-- J0_length_8abf5
noncomputable def f_J0_length_8abf5 (sh : List gb_Sh) (g : gb_G) (s0 : Nat) : Option (gb_G × Int32) := gb_bd (f_J0_coder_7d493 sh g s0) (fun r1 => some (r1.1, ((Int32.ofNat (gb_sl.getD s0 0)) >>> (r1.2 &&& 31))))
set_option maxRecDepth 100000 in
set_option maxHeartbeats 4000000 in
theorem t_J0_length_8abf5 {Γ : gb_X} {sh : List gb_Sh} {s0 : Nat} {out : gb_G × Int32} (hS : gb_S sh) (h_s0 : s0 < 13) {g : gb_G} (h : f_J0_length_8abf5 sh g s0 = some out) : gb_C Γ M_J0_length_8abf5 1 0 0 sh g [.retAddr (2 + s0)] (gb_Ri sh out) := by
  refine gb_C.ofF (by decide +kernel) (Nat.le_of_ble_eq_true rfl) ?_
  refine gb_pick (lv' := [(0, .retAddr (2 + s0))]) [0] rfl ?_
  unfold f_J0_length_8abf5 at h
  refine gb_rload_n d_J0_length_8abf5_0 rfl ?_
  refine gb_rget (v := .retAddr (20 + s0)) (gb_s_value h_s0) rf_J0_9 d_J0_length_8abf5_1 ?_
  refine gb_rlen (gb_s_bytes h_s0) d_J0_length_8abf5_4 ?_
  refine gb_rload_n d_J0_length_8abf5_5 rfl ?_
  obtain ⟨r1, e2, h⟩ := gb_bd_e h
  refine gb_cVSi (As := []) (rest := [.int (Int32.ofNat (gb_sl.getD s0 0))]) h_s0 rfl m_J0_335 (t_J0_coder_7d493 (Γ := Γ) hS h_s0 e2) (Nat.le_of_ble_eq_true rfl) rfl rfl (Nat.le_of_ble_eq_true rfl) d_J0_length_8abf5_6 ?_
  refine gb_ishr d_J0_length_8abf5_9 ?_
  cases h
  exact gb_iret d_J0_length_8abf5_10 rfl ⟨rfl, rfl, rfl⟩
-- X9_wordIn
noncomputable def f_X9_wordIn_57 (sh : List gb_Sh) (s1 : Nat) (K108 : gb_G → Int32 → Int32 → Int32 → Int32 → Option (gb_G × Int32)) (g : gb_G) (y2 : Int32) (y5 : Int32) : Option (gb_G × Int32) := K108 g (y2 + 1) (g.1 43 2) 1 y5
noncomputable def f_X9_wordIn_42 (sh : List gb_Sh) (s1 : Nat) (K108 : gb_G → Int32 → Int32 → Int32 → Int32 → Option (gb_G × Int32)) (g : gb_G) (y2 : Int32) (y3 : Int32) (y4 : Int32) (y5 : Int32) : Option (gb_G × Int32) := if y4 = 0 then (f_X9_wordIn_57 sh s1 K108 g y2 y5) else (if y3 = (g.1 43 3) then (some (g, y2)) else (f_X9_wordIn_57 sh s1 K108 g y2 y5))
noncomputable def f_X9_wordIn_108 (sh : List gb_Sh) (s1 : Nat) (K13 : gb_G → Int32 → Int32 → Int32 → Int32 → Option (gb_G × Int32)) (g : gb_G) (y2 : Int32) (y3 : Int32) (y4 : Int32) (y5 : Int32) : Option (gb_G × Int32) := K13 g y2 y3 y4 (y5 + 1)
noncomputable def f_X9_wordIn_103 (sh : List gb_Sh) (s1 : Nat) (K108 : gb_G → Int32 → Int32 → Int32 → Int32 → Option (gb_G × Int32)) (g : gb_G) (y2 : Int32) (y3 : Int32) (y5 : Int32) (z0 : Int32) : Option (gb_G × Int32) := K108 g y2 (y3 + 1) z0 y5
noncomputable def f_X9_wordIn_13 (sh : List gb_Sh) (s1 : Nat) : Nat → gb_G → Int32 → Int32 → Int32 → Int32 → Option (gb_G × Int32)
  | 0, _, _, _, _, _ => none
  | n + 1, g, y2, y3, y4, y5 => gb_bd (f_J0_length_8abf5 sh g s1) (fun r1 => if r1.2 < y5 then (some (r1.1, (-1))) else (gb_bd (f_J0_length_8abf5 sh r1.1 s1) (fun r3 => if y5 = r3.2 then (f_X9_wordIn_42 sh s1 (fun w w0 w1 w2 w3 => f_X9_wordIn_108 sh s1 (fun w w0 w1 w2 w3 => f_X9_wordIn_13 sh s1 n w w0 w1 w2 w3) w w0 w1 w2 w3) r3.1 y2 y3 y4 y5) else (gb_bd (f_J0_charAt_5068e sh r3.1 s1 y5) (fun r5 => if r5.2 = 32 then (f_X9_wordIn_42 sh s1 (fun w w0 w1 w2 w3 => f_X9_wordIn_108 sh s1 (fun w w0 w1 w2 w3 => f_X9_wordIn_13 sh s1 n w w0 w1 w2 w3) w w0 w1 w2 w3) r5.1 y2 y3 y4 y5) else (if y4 = 0 then (f_X9_wordIn_103 sh s1 (fun w w0 w1 w2 w3 => f_X9_wordIn_108 sh s1 (fun w w0 w1 w2 w3 => f_X9_wordIn_13 sh s1 n w w0 w1 w2 w3) w w0 w1 w2 w3) r5.1 y2 y3 y5 0) else (if (r5.1.1 43 3) ≤ y3 then (f_X9_wordIn_103 sh s1 (fun w w0 w1 w2 w3 => f_X9_wordIn_108 sh s1 (fun w w0 w1 w2 w3 => f_X9_wordIn_13 sh s1 n w w0 w1 w2 w3) w w0 w1 w2 w3) r5.1 y2 y3 y5 0) else (gb_bd (f_X9_byteAt sh r5.1 y3) (fun r7 => gb_bd (f_J0_charAt_5068e sh r7.1 s1 y5) (fun r9 => if r7.2 = r9.2 then (f_X9_wordIn_103 sh s1 (fun w w0 w1 w2 w3 => f_X9_wordIn_108 sh s1 (fun w w0 w1 w2 w3 => f_X9_wordIn_13 sh s1 n w w0 w1 w2 w3) w w0 w1 w2 w3) r9.1 y2 y3 y5 1) else (f_X9_wordIn_103 sh s1 (fun w w0 w1 w2 w3 => f_X9_wordIn_108 sh s1 (fun w w0 w1 w2 w3 => f_X9_wordIn_13 sh s1 n w w0 w1 w2 w3) w w0 w1 w2 w3) r9.1 y2 y3 y5 0)))))))))))
noncomputable def f_X9_wordIn (sh : List gb_Sh) (g : gb_G) (s1 : Nat) : Option (gb_G × Int32) := f_X9_wordIn_13 sh s1 gb_N g 0 (g.1 43 2) 1 0
set_option maxRecDepth 100000 in
set_option maxHeartbeats 4000000 in
theorem t_X9_wordIn_57 {Γ : gb_X} {sh : List gb_Sh} {s1 : Nat} {out : gb_G × Int32} (hS : gb_S sh) (h_s1 : s1 < 13) {K108 : gb_G → Int32 → Int32 → Int32 → Int32 → Option (gb_G × Int32)} (hK108 : ∀ (g : gb_G) (y2 : Int32) (y3 : Int32) (y4 : Int32) (y5 : Int32), K108 g y2 y3 y4 y5 = some out → gb_J Γ M_X9_wordIn 5 (gb_Ri sh out) 0 0 sh g 108 [(0, .ref 43), (1, .retAddr (2 + s1)), (2, .int y2), (3, .int y3), (4, .int y4), (5, .int y5)] []) : ∀ (g : gb_G) (y2 : Int32) (y5 : Int32), f_X9_wordIn_57 sh s1 K108 g y2 y5 = some out → gb_J Γ M_X9_wordIn 5 (gb_Ri sh out) 0 0 sh g 57 [(0, .ref 43), (1, .retAddr (2 + s1)), (2, .int y2), (5, .int y5)] [] := by
  intro g y2 y5 h
  unfold f_X9_wordIn_57 at h
  refine gb_iinc (y2 + 1) [(2, .int (y2 + 1)), (0, .ref 43), (1, .retAddr (2 + s1)), (5, .int y5)] d_X9_wordIn_57 (Nat.le_of_ble_eq_true rfl) rfl rfl rfl ?_
  refine gb_aload_n d_X9_wordIn_60 rfl ?_
  refine gb_geti f_X9_19 (hS 43 _ rfl) rfl d_X9_wordIn_61 ?_
  refine gb_istore_n [(3, .int (g.1 43 2)), (2, .int (y2 + 1)), (0, .ref 43), (1, .retAddr (2 + s1)), (5, .int y5)] d_X9_wordIn_64 (Nat.le_of_ble_eq_true rfl) rfl ?_
  refine gb_iconst 1 d_X9_wordIn_65 rfl ?_
  refine gb_istore [(4, .int 1), (3, .int (g.1 43 2)), (2, .int (y2 + 1)), (0, .ref 43), (1, .retAddr (2 + s1)), (5, .int y5)] d_X9_wordIn_66 (Nat.le_of_ble_eq_true rfl) rfl ?_
  refine gb_goto 108 d_X9_wordIn_68 (by decide) ?_
  refine gb_pick (lv' := [(0, .ref 43), (1, .retAddr (2 + s1)), (2, .int (y2 + 1)), (3, .int (g.1 43 2)), (4, .int 1), (5, .int y5)]) [3, 4, 2, 1, 0, 5] rfl ?_
  exact hK108 _ (y2 + 1) (g.1 43 2) 1 y5 h
set_option maxRecDepth 100000 in
set_option maxHeartbeats 4000000 in
theorem t_X9_wordIn_42 {Γ : gb_X} {sh : List gb_Sh} {s1 : Nat} {out : gb_G × Int32} (hS : gb_S sh) (h_s1 : s1 < 13) {K108 : gb_G → Int32 → Int32 → Int32 → Int32 → Option (gb_G × Int32)} (hK108 : ∀ (g : gb_G) (y2 : Int32) (y3 : Int32) (y4 : Int32) (y5 : Int32), K108 g y2 y3 y4 y5 = some out → gb_J Γ M_X9_wordIn 5 (gb_Ri sh out) 0 0 sh g 108 [(0, .ref 43), (1, .retAddr (2 + s1)), (2, .int y2), (3, .int y3), (4, .int y4), (5, .int y5)] []) : ∀ (g : gb_G) (y2 : Int32) (y3 : Int32) (y4 : Int32) (y5 : Int32), f_X9_wordIn_42 sh s1 K108 g y2 y3 y4 y5 = some out → gb_J Γ M_X9_wordIn 5 (gb_Ri sh out) 0 0 sh g 42 [(0, .ref 43), (1, .retAddr (2 + s1)), (2, .int y2), (3, .int y3), (4, .int y4), (5, .int y5)] [] := by
  intro g y2 y3 y4 y5 h
  unfold f_X9_wordIn_42 at h
  refine gb_iload d_X9_wordIn_42 rfl ?_
  refine gb_if_eq 57 d_X9_wordIn_44 (by decide) (fun hc => ?_) (fun hc => ?_)
  · have h := gb_it hc h
    refine gb_pick (lv' := [(0, .ref 43), (1, .retAddr (2 + s1)), (2, .int y2), (5, .int y5)]) [0, 1, 2, 5] rfl ?_
    exact t_X9_wordIn_57 hS h_s1 hK108 _ y2 y5 h
  · have h := gb_if hc h
    refine gb_iload_n d_X9_wordIn_47 rfl ?_
    refine gb_aload_n d_X9_wordIn_48 rfl ?_
    refine gb_geti f_X9_22 (hS 43 _ rfl) rfl d_X9_wordIn_49 ?_
    refine gb_icmp_ne 57 d_X9_wordIn_52 (by decide) (fun hc => ?_) (fun hc => ?_)
    · have h := gb_if hc h
      refine gb_pick (lv' := [(0, .ref 43), (1, .retAddr (2 + s1)), (2, .int y2), (5, .int y5)]) [0, 1, 2, 5] rfl ?_
      exact t_X9_wordIn_57 hS h_s1 hK108 _ y2 y5 h
    · have h := gb_it hc h
      refine gb_iload_n d_X9_wordIn_55 rfl ?_
      cases h
      exact gb_iret d_X9_wordIn_56 rfl ⟨rfl, rfl, rfl⟩
set_option maxRecDepth 100000 in
set_option maxHeartbeats 4000000 in
theorem t_X9_wordIn_108 {Γ : gb_X} {sh : List gb_Sh} {s1 : Nat} {out : gb_G × Int32} (hS : gb_S sh) (h_s1 : s1 < 13) {K13 : gb_G → Int32 → Int32 → Int32 → Int32 → Option (gb_G × Int32)} (hK13 : ∀ (g : gb_G) (y2 : Int32) (y3 : Int32) (y4 : Int32) (y5 : Int32), K13 g y2 y3 y4 y5 = some out → gb_J Γ M_X9_wordIn 5 (gb_Ri sh out) 0 0 sh g 13 [(0, .ref 43), (1, .retAddr (2 + s1)), (2, .int y2), (3, .int y3), (4, .int y4), (5, .int y5)] []) : ∀ (g : gb_G) (y2 : Int32) (y3 : Int32) (y4 : Int32) (y5 : Int32), f_X9_wordIn_108 sh s1 K13 g y2 y3 y4 y5 = some out → gb_J Γ M_X9_wordIn 5 (gb_Ri sh out) 0 0 sh g 108 [(0, .ref 43), (1, .retAddr (2 + s1)), (2, .int y2), (3, .int y3), (4, .int y4), (5, .int y5)] [] := by
  intro g y2 y3 y4 y5 h
  unfold f_X9_wordIn_108 at h
  refine gb_iinc (y5 + 1) [(5, .int (y5 + 1)), (0, .ref 43), (1, .retAddr (2 + s1)), (2, .int y2), (3, .int y3), (4, .int y4)] d_X9_wordIn_108 (Nat.le_of_ble_eq_true rfl) rfl rfl rfl ?_
  refine gb_goto 13 d_X9_wordIn_111 (by decide) ?_
  refine gb_pick (lv' := [(0, .ref 43), (1, .retAddr (2 + s1)), (2, .int y2), (3, .int y3), (4, .int y4), (5, .int (y5 + 1))]) [1, 2, 3, 4, 5, 0] rfl ?_
  exact hK13 _ y2 y3 y4 (y5 + 1) h
set_option maxRecDepth 100000 in
set_option maxHeartbeats 4000000 in
theorem t_X9_wordIn_103 {Γ : gb_X} {sh : List gb_Sh} {s1 : Nat} {out : gb_G × Int32} (hS : gb_S sh) (h_s1 : s1 < 13) {K108 : gb_G → Int32 → Int32 → Int32 → Int32 → Option (gb_G × Int32)} (hK108 : ∀ (g : gb_G) (y2 : Int32) (y3 : Int32) (y4 : Int32) (y5 : Int32), K108 g y2 y3 y4 y5 = some out → gb_J Γ M_X9_wordIn 5 (gb_Ri sh out) 0 0 sh g 108 [(0, .ref 43), (1, .retAddr (2 + s1)), (2, .int y2), (3, .int y3), (4, .int y4), (5, .int y5)] []) : ∀ (g : gb_G) (y2 : Int32) (y3 : Int32) (y5 : Int32) (z0 : Int32), f_X9_wordIn_103 sh s1 K108 g y2 y3 y5 z0 = some out → gb_J Γ M_X9_wordIn 5 (gb_Ri sh out) 0 0 sh g 103 [(0, .ref 43), (1, .retAddr (2 + s1)), (2, .int y2), (3, .int y3), (5, .int y5)] [.int z0] := by
  intro g y2 y3 y5 z0 h
  unfold f_X9_wordIn_103 at h
  refine gb_istore [(4, .int z0), (0, .ref 43), (1, .retAddr (2 + s1)), (2, .int y2), (3, .int y3), (5, .int y5)] d_X9_wordIn_103 (Nat.le_of_ble_eq_true rfl) rfl ?_
  refine gb_iinc (y3 + 1) [(3, .int (y3 + 1)), (4, .int z0), (0, .ref 43), (1, .retAddr (2 + s1)), (2, .int y2), (5, .int y5)] d_X9_wordIn_105 (Nat.le_of_ble_eq_true rfl) rfl rfl rfl ?_
  refine gb_pick (lv' := [(0, .ref 43), (1, .retAddr (2 + s1)), (2, .int y2), (3, .int (y3 + 1)), (4, .int z0), (5, .int y5)]) [2, 3, 4, 0, 1, 5] rfl ?_
  exact hK108 _ y2 (y3 + 1) z0 y5 h
set_option maxRecDepth 100000 in
set_option maxHeartbeats 4000000 in
theorem t_X9_wordIn_13 {Γ : gb_X} {sh : List gb_Sh} {s1 : Nat} {out : gb_G × Int32} (hS : gb_S sh) (h_s1 : s1 < 13) : ∀ (n : Nat) (g : gb_G) (y2 : Int32) (y3 : Int32) (y4 : Int32) (y5 : Int32), f_X9_wordIn_13 sh s1 n g y2 y3 y4 y5 = some out → gb_J Γ M_X9_wordIn 5 (gb_Ri sh out) 0 0 sh g 13 [(0, .ref 43), (1, .retAddr (2 + s1)), (2, .int y2), (3, .int y3), (4, .int y4), (5, .int y5)] [] := by
  intro n
  induction n with
  | zero => intro g y2 y3 y4 y5 h; cases h
  | succ n ih =>
    intro g y2 y3 y4 y5 h
    rw [f_X9_wordIn_13] at h
    refine gb_iload d_X9_wordIn_13 rfl ?_
    refine gb_rload_n d_X9_wordIn_15 rfl ?_
    obtain ⟨r1, e2, h⟩ := gb_bd_e h
    refine gb_cVSi (As := []) (rest := [.int y5]) h_s1 rfl m_X9_53 (t_J0_length_8abf5 (Γ := Γ) hS h_s1 e2) (Nat.le_of_ble_eq_true rfl) rfl rfl (Nat.le_of_ble_eq_true rfl) d_X9_wordIn_16 ?_
    refine gb_icmp_gt 114 d_X9_wordIn_19 (by decide) (fun hc => ?_) (fun hc => ?_)
    · have h := gb_it hc h
      refine gb_iconst (-1) d_X9_wordIn_114 rfl ?_
      cases h
      exact gb_iret d_X9_wordIn_115 rfl ⟨rfl, rfl, rfl⟩
    · have h := gb_if hc h
      refine gb_iload d_X9_wordIn_22 rfl ?_
      refine gb_rload_n d_X9_wordIn_24 rfl ?_
      obtain ⟨r3, e4, h⟩ := gb_bd_e h
      refine gb_cVSi (As := []) (rest := [.int y5]) h_s1 rfl m_X9_53 (t_J0_length_8abf5 (Γ := Γ) hS h_s1 e4) (Nat.le_of_ble_eq_true rfl) rfl rfl (Nat.le_of_ble_eq_true rfl) d_X9_wordIn_25 ?_
      refine gb_icmp_eq 42 d_X9_wordIn_28 (by decide) (fun hc => ?_) (fun hc => ?_)
      · have h := gb_it hc h
        exact t_X9_wordIn_42 hS h_s1 (fun w w0 w1 w2 w3 hw => t_X9_wordIn_108 hS h_s1 (fun w w0 w1 w2 w3 hw => ih w w0 w1 w2 w3 hw) w w0 w1 w2 w3 hw) _ y2 y3 y4 y5 h
      · have h := gb_if hc h
        refine gb_rload_n d_X9_wordIn_31 rfl ?_
        refine gb_iload d_X9_wordIn_32 rfl ?_
        obtain ⟨r5, e6, h⟩ := gb_bd_e h
        refine gb_cVSi (As := [.int y5]) (rest := []) h_s1 rfl m_X9_56 (t_J0_charAt_5068e (Γ := Γ) hS h_s1 e6) (Nat.le_of_ble_eq_true rfl) rfl rfl (Nat.le_of_ble_eq_true rfl) d_X9_wordIn_34 ?_
        refine gb_bipush 32 d_X9_wordIn_37 rfl ?_
        refine gb_icmp_ne 71 d_X9_wordIn_39 (by decide) (fun hc => ?_) (fun hc => ?_)
        · have h := gb_if hc h
          refine gb_iload d_X9_wordIn_71 rfl ?_
          refine gb_if_eq 102 d_X9_wordIn_73 (by decide) (fun hc => ?_) (fun hc => ?_)
          · have h := gb_it hc h
            refine gb_iconst 0 d_X9_wordIn_102 rfl ?_
            refine gb_pick (lv' := [(0, .ref 43), (1, .retAddr (2 + s1)), (2, .int y2), (3, .int y3), (5, .int y5)]) [0, 1, 2, 3, 5] rfl ?_
            exact t_X9_wordIn_103 hS h_s1 (fun w w0 w1 w2 w3 hw => t_X9_wordIn_108 hS h_s1 (fun w w0 w1 w2 w3 hw => ih w w0 w1 w2 w3 hw) w w0 w1 w2 w3 hw) _ y2 y3 y5 0 h
          · have h := gb_if hc h
            refine gb_iload_n d_X9_wordIn_76 rfl ?_
            refine gb_aload_n d_X9_wordIn_77 rfl ?_
            refine gb_geti f_X9_22 (hS 43 _ rfl) rfl d_X9_wordIn_78 ?_
            refine gb_icmp_ge 102 d_X9_wordIn_81 (by decide) (fun hc => ?_) (fun hc => ?_)
            · have h := gb_it hc h
              refine gb_iconst 0 d_X9_wordIn_102 rfl ?_
              refine gb_pick (lv' := [(0, .ref 43), (1, .retAddr (2 + s1)), (2, .int y2), (3, .int y3), (5, .int y5)]) [0, 1, 2, 3, 5] rfl ?_
              exact t_X9_wordIn_103 hS h_s1 (fun w w0 w1 w2 w3 hw => t_X9_wordIn_108 hS h_s1 (fun w w0 w1 w2 w3 hw => ih w w0 w1 w2 w3 hw) w w0 w1 w2 w3 hw) _ y2 y3 y5 0 h
            · have h := gb_if hc h
              refine gb_aload_n d_X9_wordIn_84 rfl ?_
              refine gb_iload_n d_X9_wordIn_85 rfl ?_
              obtain ⟨r7, e8, h⟩ := gb_bd_e h
              refine gb_cVi (As := [.int y3]) (rest := []) m_X9_31 (t_X9_byteAt (Γ := Γ) hS e8) (hS 43 _ rfl) rfl (Nat.le_of_ble_eq_true rfl) rfl rfl (Nat.le_of_ble_eq_true rfl) d_X9_wordIn_86 ?_
              refine gb_rload_n d_X9_wordIn_89 rfl ?_
              refine gb_iload d_X9_wordIn_90 rfl ?_
              obtain ⟨r9, e10, h⟩ := gb_bd_e h
              refine gb_cVSi (As := [.int y5]) (rest := [.int r7.2]) h_s1 rfl m_X9_56 (t_J0_charAt_5068e (Γ := Γ) hS h_s1 e10) (Nat.le_of_ble_eq_true rfl) rfl rfl (Nat.le_of_ble_eq_true rfl) d_X9_wordIn_92 ?_
              refine gb_icmp_ne 102 d_X9_wordIn_95 (by decide) (fun hc => ?_) (fun hc => ?_)
              · have h := gb_if hc h
                refine gb_iconst 0 d_X9_wordIn_102 rfl ?_
                refine gb_pick (lv' := [(0, .ref 43), (1, .retAddr (2 + s1)), (2, .int y2), (3, .int y3), (5, .int y5)]) [0, 1, 2, 3, 5] rfl ?_
                exact t_X9_wordIn_103 hS h_s1 (fun w w0 w1 w2 w3 hw => t_X9_wordIn_108 hS h_s1 (fun w w0 w1 w2 w3 hw => ih w w0 w1 w2 w3 hw) w w0 w1 w2 w3 hw) _ y2 y3 y5 0 h
              · have h := gb_it hc h
                refine gb_iconst 1 d_X9_wordIn_98 rfl ?_
                refine gb_goto 103 d_X9_wordIn_99 (by decide) ?_
                refine gb_pick (lv' := [(0, .ref 43), (1, .retAddr (2 + s1)), (2, .int y2), (3, .int y3), (5, .int y5)]) [0, 1, 2, 3, 5] rfl ?_
                exact t_X9_wordIn_103 hS h_s1 (fun w w0 w1 w2 w3 hw => t_X9_wordIn_108 hS h_s1 (fun w w0 w1 w2 w3 hw => ih w w0 w1 w2 w3 hw) w w0 w1 w2 w3 hw) _ y2 y3 y5 1 h
        · have h := gb_it hc h
          exact t_X9_wordIn_42 hS h_s1 (fun w w0 w1 w2 w3 hw => t_X9_wordIn_108 hS h_s1 (fun w w0 w1 w2 w3 hw => ih w w0 w1 w2 w3 hw) w w0 w1 w2 w3 hw) _ y2 y3 y4 y5 h
set_option maxRecDepth 100000 in
set_option maxHeartbeats 4000000 in
theorem t_X9_wordIn {Γ : gb_X} {sh : List gb_Sh} {s1 : Nat} {out : gb_G × Int32} (hS : gb_S sh) (h_s1 : s1 < 13) {g : gb_G} (h : f_X9_wordIn sh g s1 = some out) : gb_C Γ M_X9_wordIn 5 0 0 sh g [.ref 43, .retAddr (2 + s1)] (gb_Ri sh out) := by
  refine gb_C.of rfl (Nat.le_of_ble_eq_true rfl) ?_
  refine gb_pick (lv' := [(0, .ref 43), (1, .retAddr (2 + s1))]) [0, 1] rfl ?_
  unfold f_X9_wordIn at h
  refine gb_iconst 0 d_X9_wordIn_0 rfl ?_
  refine gb_istore_n [(2, .int 0), (0, .ref 43), (1, .retAddr (2 + s1))] d_X9_wordIn_1 (Nat.le_of_ble_eq_true rfl) rfl ?_
  refine gb_aload_n d_X9_wordIn_2 rfl ?_
  refine gb_geti f_X9_19 (hS 43 _ rfl) rfl d_X9_wordIn_3 ?_
  refine gb_istore_n [(3, .int (g.1 43 2)), (2, .int 0), (0, .ref 43), (1, .retAddr (2 + s1))] d_X9_wordIn_6 (Nat.le_of_ble_eq_true rfl) rfl ?_
  refine gb_iconst 1 d_X9_wordIn_7 rfl ?_
  refine gb_istore [(4, .int 1), (3, .int (g.1 43 2)), (2, .int 0), (0, .ref 43), (1, .retAddr (2 + s1))] d_X9_wordIn_8 (Nat.le_of_ble_eq_true rfl) rfl ?_
  refine gb_iconst 0 d_X9_wordIn_10 rfl ?_
  refine gb_istore [(5, .int 0), (4, .int 1), (3, .int (g.1 43 2)), (2, .int 0), (0, .ref 43), (1, .retAddr (2 + s1))] d_X9_wordIn_11 (Nat.le_of_ble_eq_true rfl) rfl ?_
  refine gb_pick (lv' := [(0, .ref 43), (1, .retAddr (2 + s1)), (2, .int 0), (3, .int (g.1 43 2)), (4, .int 1), (5, .int 0)]) [4, 5, 3, 2, 1, 0] rfl ?_
  exact t_X9_wordIn_13 hS h_s1  gb_N _ 0 (g.1 43 2) 1 0 h
-- X8_readKeyword
noncomputable def f_X8_readKeyword (sh : List gb_Sh) (g : gb_G) (s1 : Nat) : Option (gb_G × Int32) := gb_bd (f_X9_wordIn sh g s1) (fun r1 => if r1.2 = (-1) then (some (r1.1, 0)) else (gb_bd (f_X9_step sh r1.1) (fun r3 => some (r3, 1))))
set_option maxRecDepth 100000 in
set_option maxHeartbeats 4000000 in
theorem t_X8_readKeyword {Γ : gb_X} {sh : List gb_Sh} {s1 : Nat} {out : gb_G × Int32} (hS : gb_S sh) (h_s1 : s1 < 13) {g : gb_G} (h : f_X8_readKeyword sh g s1 = some out) : gb_C Γ M_X8_readKeyword 6 0 0 sh g [.ref 45, .retAddr (2 + s1)] (gb_Ri sh out) := by
  refine gb_C.of rfl (Nat.le_of_ble_eq_true rfl) ?_
  refine gb_pick (lv' := [(0, .ref 45), (1, .retAddr (2 + s1))]) [0, 1] rfl ?_
  unfold f_X8_readKeyword at h
  refine gb_aload_n d_X8_readKeyword_0 rfl ?_
  refine gb_getr (r := 43) f_X8_26 (hS 45 _ rfl) rfl d_X8_readKeyword_1 ?_
  refine gb_rload_n d_X8_readKeyword_4 rfl ?_
  obtain ⟨r1, e2, h⟩ := gb_bd_e h
  refine gb_cVi (As := [.retAddr (2 + s1)]) (rest := []) m_X8_59 (t_X9_wordIn (Γ := Γ) hS h_s1 e2) (hS 43 _ rfl) rfl (Nat.le_of_ble_eq_true rfl) rfl rfl (Nat.le_of_ble_eq_true rfl) d_X8_readKeyword_5 ?_
  refine gb_iconst (-1) d_X8_readKeyword_8 rfl ?_
  refine gb_icmp_ne 14 d_X8_readKeyword_9 (by decide) (fun hc => ?_) (fun hc => ?_)
  · have h := gb_if hc h
    refine gb_aload_n d_X8_readKeyword_14 rfl ?_
    refine gb_getr (r := 43) f_X8_26 (hS 45 _ rfl) rfl d_X8_readKeyword_15 ?_
    obtain ⟨r3, e4, h⟩ := gb_bd_e h
    refine gb_cVv (As := []) (rest := []) m_X8_63 (t_X9_step (Γ := Γ) hS e4) (hS 43 _ rfl) rfl (Nat.le_of_ble_eq_true rfl) rfl rfl (Nat.le_of_ble_eq_true rfl) d_X8_readKeyword_18 ?_
    refine gb_iconst 1 d_X8_readKeyword_21 rfl ?_
    cases h
    exact gb_zret d_X8_readKeyword_22 rfl rfl ⟨rfl, rfl, rfl⟩
  · have h := gb_it hc h
    refine gb_iconst 0 d_X8_readKeyword_12 rfl ?_
    cases h
    exact gb_zret d_X8_readKeyword_13 rfl rfl ⟨rfl, rfl, rfl⟩
-- X9_number
noncomputable def f_X9_number_17 (sh : List gb_Sh) : Nat → gb_G → Int32 → Int32 → Option (gb_G × Int32)
  | 0, _, _, _ => none
  | n + 1, g, y1, y2 => if (g.1 43 3) ≤ y2 then (some (g, y1)) else (gb_bd (f_X9_byteAt sh g y2) (fun r1 => gb_bd (f_J9_min_7cf53 sh r1.1 1001 (((y1 * 10) + r1.2) - 48)) (fun r3 => f_X9_number_17 sh n r3.1 r3.2 (y2 + 1))))
noncomputable def f_X9_number (sh : List gb_Sh) (g : gb_G) : Option (gb_G × Int32) := if (g.1 43 4) = 2 then (f_X9_number_17 sh gb_N g 0 (g.1 43 2)) else (some (g, (-1)))
set_option maxRecDepth 100000 in
set_option maxHeartbeats 4000000 in
theorem t_X9_number_17 {Γ : gb_X} {sh : List gb_Sh} {out : gb_G × Int32} (hS : gb_S sh) : ∀ (n : Nat) (g : gb_G) (y1 : Int32) (y2 : Int32), f_X9_number_17 sh n g y1 y2 = some out → gb_J Γ M_X9_number 1 (gb_Ri sh out) 0 0 sh g 17 [(0, .ref 43), (1, .int y1), (2, .int y2)] [] := by
  intro n
  induction n with
  | zero => intro g y1 y2 h; cases h
  | succ n ih =>
    intro g y1 y2 h
    rw [f_X9_number_17] at h
    refine gb_iload_n d_X9_number_17 rfl ?_
    refine gb_aload_n d_X9_number_18 rfl ?_
    refine gb_geti f_X9_22 (hS 43 _ rfl) rfl d_X9_number_19 ?_
    refine gb_icmp_ge 51 d_X9_number_22 (by decide) (fun hc => ?_) (fun hc => ?_)
    · have h := gb_it hc h
      refine gb_iload_n d_X9_number_51 rfl ?_
      cases h
      exact gb_iret d_X9_number_52 rfl ⟨rfl, rfl, rfl⟩
    · have h := gb_if hc h
      refine gb_sipush 1001 d_X9_number_25 rfl ?_
      refine gb_iload_n d_X9_number_28 rfl ?_
      refine gb_bipush 10 d_X9_number_29 rfl ?_
      refine gb_imul d_X9_number_31 ?_
      refine gb_aload_n d_X9_number_32 rfl ?_
      refine gb_iload_n d_X9_number_33 rfl ?_
      obtain ⟨r1, e2, h⟩ := gb_bd_e h
      refine gb_cVi (As := [.int y2]) (rest := [.int (y1 * 10), .int 1001]) m_X9_31 (t_X9_byteAt (Γ := Γ) hS e2) (hS 43 _ rfl) rfl (Nat.le_of_ble_eq_true rfl) rfl rfl (Nat.le_of_ble_eq_true rfl) d_X9_number_34 ?_
      refine gb_iadd d_X9_number_37 ?_
      refine gb_bipush 48 d_X9_number_38 rfl ?_
      refine gb_isub d_X9_number_40 ?_
      obtain ⟨r3, e4, h⟩ := gb_bd_e h
      refine gb_cSi (As := [.int 1001, .int (((y1 * 10) + r1.2) - 48)]) (rest := []) m_X9_38 (t_J9_min_7cf53 (Γ := Γ) hS e4) (Nat.le_of_ble_eq_true rfl) rfl rfl (Nat.le_of_ble_eq_true rfl) d_X9_number_41 ?_
      refine gb_istore_n [(1, .int r3.2), (0, .ref 43), (2, .int y2)] d_X9_number_44 (Nat.le_of_ble_eq_true rfl) rfl ?_
      refine gb_iinc (y2 + 1) [(2, .int (y2 + 1)), (1, .int r3.2), (0, .ref 43)] d_X9_number_45 (Nat.le_of_ble_eq_true rfl) rfl rfl rfl ?_
      refine gb_goto 17 d_X9_number_48 (by decide) ?_
      refine gb_pick (lv' := [(0, .ref 43), (1, .int r3.2), (2, .int (y2 + 1))]) [2, 1, 0] rfl ?_
      exact ih _ r3.2 (y2 + 1) h
set_option maxRecDepth 100000 in
set_option maxHeartbeats 4000000 in
theorem t_X9_number {Γ : gb_X} {sh : List gb_Sh} {out : gb_G × Int32} (hS : gb_S sh) {g : gb_G} (h : f_X9_number sh g = some out) : gb_C Γ M_X9_number 1 0 0 sh g [.ref 43] (gb_Ri sh out) := by
  refine gb_C.of rfl (Nat.le_of_ble_eq_true rfl) ?_
  refine gb_pick (lv' := [(0, .ref 43)]) [0] rfl ?_
  unfold f_X9_number at h
  refine gb_aload_n d_X9_number_0 rfl ?_
  refine gb_geti f_X9_25 (hS 43 _ rfl) rfl d_X9_number_1 ?_
  refine gb_iconst 2 d_X9_number_4 rfl ?_
  refine gb_icmp_eq 10 d_X9_number_5 (by decide) (fun hc => ?_) (fun hc => ?_)
  · have h := gb_it hc h
    refine gb_iconst 0 d_X9_number_10 rfl ?_
    refine gb_istore_n [(1, .int 0), (0, .ref 43)] d_X9_number_11 (Nat.le_of_ble_eq_true rfl) rfl ?_
    refine gb_aload_n d_X9_number_12 rfl ?_
    refine gb_geti f_X9_19 (hS 43 _ rfl) rfl d_X9_number_13 ?_
    refine gb_istore_n [(2, .int (g.1 43 2)), (1, .int 0), (0, .ref 43)] d_X9_number_16 (Nat.le_of_ble_eq_true rfl) rfl ?_
    refine gb_pick (lv' := [(0, .ref 43), (1, .int 0), (2, .int (g.1 43 2))]) [2, 1, 0] rfl ?_
    exact t_X9_number_17 hS  gb_N _ 0 (g.1 43 2) h
  · have h := gb_if hc h
    refine gb_iconst (-1) d_X9_number_8 rfl ?_
    cases h
    exact gb_iret d_X9_number_9 rfl ⟨rfl, rfl, rfl⟩
-- X8_readNumber
noncomputable def f_X8_readNumber (sh : List gb_Sh) (g : gb_G) : Option (gb_G × Int32) := gb_bd (f_X9_number sh g) (fun r1 => if r1.2 ≤ 1000 then (gb_bd (f_X9_step sh r1.1) (fun r3 => gb_bd (f_X7_emit sh r3 46 0 r1.2) (fun r5 => some (r5.1, 1)))) else (some (r1.1, 0)))
set_option maxRecDepth 100000 in
set_option maxHeartbeats 4000000 in
theorem t_X8_readNumber {Γ : gb_X} {sh : List gb_Sh} {out : gb_G × Int32} (hS : gb_S sh) {g : gb_G} (h : f_X8_readNumber sh g = some out) : gb_C Γ M_X8_readNumber 2 0 0 sh g [.ref 45] (gb_Ri sh out) := by
  refine gb_C.of rfl (Nat.le_of_ble_eq_true rfl) ?_
  refine gb_pick (lv' := [(0, .ref 45)]) [0] rfl ?_
  unfold f_X8_readNumber at h
  refine gb_aload_n d_X8_readNumber_0 rfl ?_
  refine gb_getr (r := 43) f_X8_26 (hS 45 _ rfl) rfl d_X8_readNumber_1 ?_
  obtain ⟨r1, e2, h⟩ := gb_bd_e h
  refine gb_cVi (As := []) (rest := []) m_X8_98 (t_X9_number (Γ := Γ) hS e2) (hS 43 _ rfl) rfl (Nat.le_of_ble_eq_true rfl) rfl rfl (Nat.le_of_ble_eq_true rfl) d_X8_readNumber_4 ?_
  refine gb_istore_n [(1, .int r1.2), (0, .ref 45)] d_X8_readNumber_7 (Nat.le_of_ble_eq_true rfl) rfl ?_
  refine gb_iload_n d_X8_readNumber_8 rfl ?_
  refine gb_sipush 1000 d_X8_readNumber_9 rfl ?_
  refine gb_icmp_le 17 d_X8_readNumber_12 (by decide) (fun hc => ?_) (fun hc => ?_)
  · have h := gb_it hc h
    refine gb_aload_n d_X8_readNumber_17 rfl ?_
    refine gb_getr (r := 43) f_X8_26 (hS 45 _ rfl) rfl d_X8_readNumber_18 ?_
    obtain ⟨r3, e4, h⟩ := gb_bd_e h
    refine gb_cVv (As := []) (rest := []) m_X8_63 (t_X9_step (Γ := Γ) hS e4) (hS 43 _ rfl) rfl (Nat.le_of_ble_eq_true rfl) rfl rfl (Nat.le_of_ble_eq_true rfl) d_X8_readNumber_21 ?_
    refine gb_aload_n d_X8_readNumber_24 rfl ?_
    refine gb_getr (r := 46) f_X8_12 (hS 45 _ rfl) rfl d_X8_readNumber_25 ?_
    refine gb_iconst 0 d_X8_readNumber_28 rfl ?_
    refine gb_iload_n d_X8_readNumber_29 rfl ?_
    obtain ⟨r5, e6, h⟩ := gb_bd_e h
    refine gb_cVi (As := [.int 0, .int r1.2]) (rest := []) m_X8_114 (t_X7_emit (Γ := Γ) hS (ok_X7_46 hS) e6) (ok_X7_46 hS).1 rfl (Nat.le_of_ble_eq_true rfl) rfl rfl (Nat.le_of_ble_eq_true rfl) d_X8_readNumber_30 ?_
    refine gb_pop d_X8_readNumber_33 rfl ?_
    refine gb_iconst 1 d_X8_readNumber_34 rfl ?_
    cases h
    exact gb_zret d_X8_readNumber_35 rfl rfl ⟨rfl, rfl, rfl⟩
  · have h := gb_if hc h
    refine gb_iconst 0 d_X8_readNumber_15 rfl ?_
    cases h
    exact gb_zret d_X8_readNumber_16 rfl rfl ⟨rfl, rfl, rfl⟩
-- X9_isSign
noncomputable def f_X9_isSign (sh : List gb_Sh) (g : gb_G) (x1 : Int32) : Option (gb_G × Int32) := gb_bd (f_X9_byteAt sh g (g.1 43 2)) (fun r1 => if r1.2 = x1 then (some (r1.1, 1)) else (some (r1.1, 0)))
set_option maxRecDepth 100000 in
set_option maxHeartbeats 4000000 in
theorem t_X9_isSign {Γ : gb_X} {sh : List gb_Sh} {x1 : Int32} {out : gb_G × Int32} (hS : gb_S sh) {g : gb_G} (h : f_X9_isSign sh g x1 = some out) : gb_C Γ M_X9_isSign 1 0 0 sh g [.ref 43, .int x1] (gb_Ri sh out) := by
  refine gb_C.of rfl (Nat.le_of_ble_eq_true rfl) ?_
  refine gb_pick (lv' := [(0, .ref 43), (1, .int x1)]) [0, 1] rfl ?_
  unfold f_X9_isSign at h
  refine gb_aload_n d_X9_isSign_0 rfl ?_
  refine gb_aload_n d_X9_isSign_1 rfl ?_
  refine gb_geti f_X9_19 (hS 43 _ rfl) rfl d_X9_isSign_2 ?_
  obtain ⟨r1, e2, h⟩ := gb_bd_e h
  refine gb_cVi (As := [.int (g.1 43 2)]) (rest := []) m_X9_31 (t_X9_byteAt (Γ := Γ) hS e2) (hS 43 _ rfl) rfl (Nat.le_of_ble_eq_true rfl) rfl rfl (Nat.le_of_ble_eq_true rfl) d_X9_isSign_5 ?_
  refine gb_iload_n d_X9_isSign_8 rfl ?_
  refine gb_icmp_ne 16 d_X9_isSign_9 (by decide) (fun hc => ?_) (fun hc => ?_)
  · have h := gb_if hc h
    refine gb_iconst 0 d_X9_isSign_16 rfl ?_
    cases h
    exact gb_zret d_X9_isSign_17 rfl rfl ⟨rfl, rfl, rfl⟩
  · have h := gb_it hc h
    refine gb_iconst 1 d_X9_isSign_12 rfl ?_
    refine gb_goto 17 d_X9_isSign_13 (by decide) ?_
    cases h
    exact gb_zret d_X9_isSign_17 rfl rfl ⟨rfl, rfl, rfl⟩
-- X8_readSign
noncomputable def f_X8_readSign (sh : List gb_Sh) (g : gb_G) (x1 : Int32) : Option (gb_G × Int32) := gb_bd (f_X9_isSign sh g x1) (fun r1 => if r1.2 = 0 then (some (r1.1, 0)) else (gb_bd (f_X9_step sh r1.1) (fun r3 => some (r3, 1))))
set_option maxRecDepth 100000 in
set_option maxHeartbeats 4000000 in
theorem t_X8_readSign {Γ : gb_X} {sh : List gb_Sh} {x1 : Int32} {out : gb_G × Int32} (hS : gb_S sh) {g : gb_G} (h : f_X8_readSign sh g x1 = some out) : gb_C Γ M_X8_readSign 2 0 0 sh g [.ref 45, .int x1] (gb_Ri sh out) := by
  refine gb_C.of rfl (Nat.le_of_ble_eq_true rfl) ?_
  refine gb_pick (lv' := [(0, .ref 45), (1, .int x1)]) [0, 1] rfl ?_
  unfold f_X8_readSign at h
  refine gb_aload_n d_X8_readSign_0 rfl ?_
  refine gb_getr (r := 43) f_X8_26 (hS 45 _ rfl) rfl d_X8_readSign_1 ?_
  refine gb_iload_n d_X8_readSign_4 rfl ?_
  obtain ⟨r1, e2, h⟩ := gb_bd_e h
  refine gb_cVi (As := [.int x1]) (rest := []) m_X8_95 (t_X9_isSign (Γ := Γ) hS e2) (hS 43 _ rfl) rfl (Nat.le_of_ble_eq_true rfl) rfl rfl (Nat.le_of_ble_eq_true rfl) d_X8_readSign_5 ?_
  refine gb_if_ne 13 d_X8_readSign_8 (by decide) (fun hc => ?_) (fun hc => ?_)
  · have h := gb_if hc h
    refine gb_aload_n d_X8_readSign_13 rfl ?_
    refine gb_getr (r := 43) f_X8_26 (hS 45 _ rfl) rfl d_X8_readSign_14 ?_
    obtain ⟨r3, e4, h⟩ := gb_bd_e h
    refine gb_cVv (As := []) (rest := []) m_X8_63 (t_X9_step (Γ := Γ) hS e4) (hS 43 _ rfl) rfl (Nat.le_of_ble_eq_true rfl) rfl rfl (Nat.le_of_ble_eq_true rfl) d_X8_readSign_17 ?_
    refine gb_iconst 1 d_X8_readSign_20 rfl ?_
    cases h
    exact gb_zret d_X8_readSign_21 rfl rfl ⟨rfl, rfl, rfl⟩
  · have h := gb_it hc h
    refine gb_iconst 0 d_X8_readSign_11 rfl ?_
    cases h
    exact gb_zret d_X8_readSign_12 rfl rfl ⟨rfl, rfl, rfl⟩
-- X8_readWord
noncomputable def f_X8_readWord_114 (sh : List gb_Sh) (g : gb_G) (y1 : Int32) (z0 : Int32) (z1 : Int32) : Option (gb_G × Int32) := gb_bo (z1 ||| z0) (gb_let (gb_pi g 46 7 (z1 ||| z0)) (fun g5 => gb_bd (f_X7_emit sh g5 46 1 y1) (fun r7 => some (r7.1, 1))))
noncomputable def f_X8_readWord_89 (sh : List gb_Sh) (g : gb_G) (y1 : Int32) : Option (gb_G × Int32) := if (g.1 45 2) = 0 then (f_X8_readWord_114 sh g y1 0 (g.1 46 7)) else (if y1 = 3 then (f_X8_readWord_114 sh g y1 1 (g.1 46 7)) else (f_X8_readWord_114 sh g y1 0 (g.1 46 7)))
noncomputable def f_X8_readWord_86 (sh : List gb_Sh) (K89 : gb_G → Int32 → Option (gb_G × Int32)) (g : gb_G) (y2 : Int32) (z0 : Int32) : Option (gb_G × Int32) := K89 g (z0 + y2)
noncomputable def f_X8_readWord_18 (sh : List gb_Sh) (g : gb_G) (z0 : Nat) : Option (gb_G × Int32) := gb_bd (f_X9_wordIn sh g z0) (fun r1 => if r1.2 = (-1) then (some (r1.1, 0)) else (gb_bd (f_X9_step sh r1.1) (fun r3 => if (r3.1 45 2) = 0 then (f_X8_readWord_89 sh r3 r1.2) else (if r1.2 < 5 then (f_X8_readWord_89 sh r3 r1.2) else (gb_bd (f_X9_number sh r3) (fun r9 => gb_bd (f_X10_within sh r9.1 r9.2 0 7) (fun r11 => if r11.2 = 0 then (some (r11.1, 0)) else (gb_bd (f_X9_step sh r11.1) (fun r13 => if r1.2 = 5 then (f_X8_readWord_86 sh (fun w w0 => f_X8_readWord_89 sh w w0) r13 r9.2 5) else (f_X8_readWord_86 sh (fun w w0 => f_X8_readWord_89 sh w w0) r13 r9.2 13))))))))))
noncomputable def f_X8_readWord (sh : List gb_Sh) (g : gb_G) : Option (gb_G × Int32) := if (g.1 45 2) = 0 then (f_X8_readWord_18 sh g 12) else (f_X8_readWord_18 sh g 11)
set_option maxRecDepth 100000 in
set_option maxHeartbeats 4000000 in
theorem t_X8_readWord_114 {Γ : gb_X} {sh : List gb_Sh} {out : gb_G × Int32} (hS : gb_S sh) : ∀ (g : gb_G) (y1 : Int32) (z0 : Int32) (z1 : Int32), f_X8_readWord_114 sh g y1 z0 z1 = some out → gb_J Γ M_X8_readWord 6 (gb_Ri sh out) 0 0 sh g 114 [(0, .ref 45), (1, .int y1)] [.int z0, .int z1, .ref 46] := by
  intro g y1 z0 z1 h
  unfold f_X8_readWord_114 at h
  refine gb_ior d_X8_readWord_114 ?_
  obtain ⟨hb6, hb6f, h⟩ := gb_bo_e2 h
  refine gb_puti f_X8_156 (fun h => nomatch h) (ok_X7_46 hS).1 rfl hb6 hb6f d_X8_readWord_115 ?_
  have h := gb_let_e h
  generalize gb_pi g 46 7 (z1 ||| z0) = g5 at h ⊢
  refine gb_aload_n d_X8_readWord_118 rfl ?_
  refine gb_getr (r := 46) f_X8_12 (hS 45 _ rfl) rfl d_X8_readWord_119 ?_
  refine gb_iconst 1 d_X8_readWord_122 rfl ?_
  refine gb_iload_n d_X8_readWord_123 rfl ?_
  obtain ⟨r7, e8, h⟩ := gb_bd_e h
  refine gb_cVi (As := [.int 1, .int y1]) (rest := []) m_X8_114 (t_X7_emit (Γ := Γ) hS (ok_X7_46 hS) e8) (ok_X7_46 hS).1 rfl (Nat.le_of_ble_eq_true rfl) rfl rfl (Nat.le_of_ble_eq_true rfl) d_X8_readWord_124 ?_
  refine gb_pop d_X8_readWord_127 rfl ?_
  refine gb_iconst 1 d_X8_readWord_128 rfl ?_
  cases h
  exact gb_zret d_X8_readWord_129 rfl rfl ⟨rfl, rfl, rfl⟩
set_option maxRecDepth 100000 in
set_option maxHeartbeats 4000000 in
theorem t_X8_readWord_89 {Γ : gb_X} {sh : List gb_Sh} {out : gb_G × Int32} (hS : gb_S sh) : ∀ (g : gb_G) (y1 : Int32), f_X8_readWord_89 sh g y1 = some out → gb_J Γ M_X8_readWord 6 (gb_Ri sh out) 0 0 sh g 89 [(0, .ref 45), (1, .int y1)] [] := by
  intro g y1 h
  unfold f_X8_readWord_89 at h
  refine gb_aload_n d_X8_readWord_89 rfl ?_
  refine gb_getr (r := 46) f_X8_12 (hS 45 _ rfl) rfl d_X8_readWord_90 ?_
  refine gb_dup d_X8_readWord_93 rfl ?_
  refine gb_geti f_X8_156 (ok_X7_46 hS).1 rfl d_X8_readWord_94 ?_
  refine gb_aload_n d_X8_readWord_97 rfl ?_
  refine gb_geti f_X8_18 (hS 45 _ rfl) rfl d_X8_readWord_98 ?_
  refine gb_if_eq 113 d_X8_readWord_101 (by decide) (fun hc => ?_) (fun hc => ?_)
  · have h := gb_it hc h
    refine gb_iconst 0 d_X8_readWord_113 rfl ?_
    exact t_X8_readWord_114 hS  _ y1 0 (g.1 46 7) h
  · have h := gb_if hc h
    refine gb_iload_n d_X8_readWord_104 rfl ?_
    refine gb_iconst 3 d_X8_readWord_105 rfl ?_
    refine gb_icmp_ne 113 d_X8_readWord_106 (by decide) (fun hc => ?_) (fun hc => ?_)
    · have h := gb_if hc h
      refine gb_iconst 0 d_X8_readWord_113 rfl ?_
      exact t_X8_readWord_114 hS  _ y1 0 (g.1 46 7) h
    · have h := gb_it hc h
      refine gb_iconst 1 d_X8_readWord_109 rfl ?_
      refine gb_goto 114 d_X8_readWord_110 (by decide) ?_
      exact t_X8_readWord_114 hS  _ y1 1 (g.1 46 7) h
set_option maxRecDepth 100000 in
set_option maxHeartbeats 4000000 in
theorem t_X8_readWord_86 {Γ : gb_X} {sh : List gb_Sh} {out : gb_G × Int32} (hS : gb_S sh) {K89 : gb_G → Int32 → Option (gb_G × Int32)} (hK89 : ∀ (g : gb_G) (y1 : Int32), K89 g y1 = some out → gb_J Γ M_X8_readWord 6 (gb_Ri sh out) 0 0 sh g 89 [(0, .ref 45), (1, .int y1)] []) : ∀ (g : gb_G) (y2 : Int32) (z0 : Int32), f_X8_readWord_86 sh K89 g y2 z0 = some out → gb_J Γ M_X8_readWord 6 (gb_Ri sh out) 0 0 sh g 86 [(0, .ref 45), (2, .int y2)] [.int z0] := by
  intro g y2 z0 h
  unfold f_X8_readWord_86 at h
  refine gb_iload_n d_X8_readWord_86 rfl ?_
  refine gb_iadd d_X8_readWord_87 ?_
  refine gb_istore_n [(1, .int (z0 + y2)), (0, .ref 45), (2, .int y2)] d_X8_readWord_88 (Nat.le_of_ble_eq_true rfl) rfl ?_
  refine gb_pick (lv' := [(0, .ref 45), (1, .int (z0 + y2))]) [1, 0] rfl ?_
  exact hK89 _ (z0 + y2) h
set_option maxRecDepth 100000 in
set_option maxHeartbeats 4000000 in
theorem t_X8_readWord_18 {Γ : gb_X} {sh : List gb_Sh} {out : gb_G × Int32} (hS : gb_S sh) : ∀ (g : gb_G) (z0 : Nat), z0 < 13 → f_X8_readWord_18 sh g z0 = some out → gb_J Γ M_X8_readWord 6 (gb_Ri sh out) 0 0 sh g 18 [(0, .ref 45)] [.retAddr (2 + z0), .ref 43] := by
  intro g z0 hp_z0 h
  unfold f_X8_readWord_18 at h
  obtain ⟨r1, e2, h⟩ := gb_bd_e h
  refine gb_cVi (As := [.retAddr (2 + z0)]) (rest := []) m_X8_59 (t_X9_wordIn (Γ := Γ) hS hp_z0 e2) (hS 43 _ rfl) rfl (Nat.le_of_ble_eq_true rfl) rfl rfl (Nat.le_of_ble_eq_true rfl) d_X8_readWord_18 ?_
  refine gb_istore_n [(1, .int r1.2), (0, .ref 45)] d_X8_readWord_21 (Nat.le_of_ble_eq_true rfl) rfl ?_
  refine gb_iload_n d_X8_readWord_22 rfl ?_
  refine gb_iconst (-1) d_X8_readWord_23 rfl ?_
  refine gb_icmp_ne 29 d_X8_readWord_24 (by decide) (fun hc => ?_) (fun hc => ?_)
  · have h := gb_if hc h
    refine gb_aload_n d_X8_readWord_29 rfl ?_
    refine gb_getr (r := 43) f_X8_26 (hS 45 _ rfl) rfl d_X8_readWord_30 ?_
    obtain ⟨r3, e4, h⟩ := gb_bd_e h
    refine gb_cVv (As := []) (rest := []) m_X8_63 (t_X9_step (Γ := Γ) hS e4) (hS 43 _ rfl) rfl (Nat.le_of_ble_eq_true rfl) rfl rfl (Nat.le_of_ble_eq_true rfl) d_X8_readWord_33 ?_
    refine gb_aload_n d_X8_readWord_36 rfl ?_
    refine gb_geti f_X8_18 (hS 45 _ rfl) rfl d_X8_readWord_37 ?_
    refine gb_if_eq 89 d_X8_readWord_40 (by decide) (fun hc => ?_) (fun hc => ?_)
    · have h := gb_it hc h
      refine gb_pick (lv' := [(0, .ref 45), (1, .int r1.2)]) [1, 0] rfl ?_
      exact t_X8_readWord_89 hS  _ r1.2 h
    · have h := gb_if hc h
      refine gb_iload_n d_X8_readWord_43 rfl ?_
      refine gb_iconst 5 d_X8_readWord_44 rfl ?_
      refine gb_icmp_lt 89 d_X8_readWord_45 (by decide) (fun hc => ?_) (fun hc => ?_)
      · have h := gb_it hc h
        refine gb_pick (lv' := [(0, .ref 45), (1, .int r1.2)]) [1, 0] rfl ?_
        exact t_X8_readWord_89 hS  _ r1.2 h
      · have h := gb_if hc h
        refine gb_aload_n d_X8_readWord_48 rfl ?_
        refine gb_getr (r := 43) f_X8_26 (hS 45 _ rfl) rfl d_X8_readWord_49 ?_
        obtain ⟨r9, e10, h⟩ := gb_bd_e h
        refine gb_cVi (As := []) (rest := []) m_X8_98 (t_X9_number (Γ := Γ) hS e10) (hS 43 _ rfl) rfl (Nat.le_of_ble_eq_true rfl) rfl rfl (Nat.le_of_ble_eq_true rfl) d_X8_readWord_52 ?_
        refine gb_istore_n [(2, .int r9.2), (1, .int r1.2), (0, .ref 45)] d_X8_readWord_55 (Nat.le_of_ble_eq_true rfl) rfl ?_
        refine gb_iload_n d_X8_readWord_56 rfl ?_
        refine gb_iconst 0 d_X8_readWord_57 rfl ?_
        refine gb_bipush 7 d_X8_readWord_58 rfl ?_
        obtain ⟨r11, e12, h⟩ := gb_bd_e h
        refine gb_cSNi (As := [.int r9.2, .int 0, .int 7]) (rest := []) m_X8_102 (t_X10_within (Γ := Γ) hS e12) (Nat.le_of_ble_eq_true rfl) rfl rfl (Nat.le_of_ble_eq_true rfl) d_X8_readWord_60 ?_
        refine gb_if_ne 68 d_X8_readWord_63 (by decide) (fun hc => ?_) (fun hc => ?_)
        · have h := gb_if hc h
          refine gb_aload_n d_X8_readWord_68 rfl ?_
          refine gb_getr (r := 43) f_X8_26 (hS 45 _ rfl) rfl d_X8_readWord_69 ?_
          obtain ⟨r13, e14, h⟩ := gb_bd_e h
          refine gb_cVv (As := []) (rest := []) m_X8_63 (t_X9_step (Γ := Γ) hS e14) (hS 43 _ rfl) rfl (Nat.le_of_ble_eq_true rfl) rfl rfl (Nat.le_of_ble_eq_true rfl) d_X8_readWord_72 ?_
          refine gb_iload_n d_X8_readWord_75 rfl ?_
          refine gb_iconst 5 d_X8_readWord_76 rfl ?_
          refine gb_icmp_ne 84 d_X8_readWord_77 (by decide) (fun hc => ?_) (fun hc => ?_)
          · have h := gb_if hc h
            refine gb_bipush 13 d_X8_readWord_84 rfl ?_
            refine gb_pick (lv' := [(0, .ref 45), (2, .int r9.2)]) [2, 0] rfl ?_
            exact t_X8_readWord_86 hS (fun w w0 hw => t_X8_readWord_89 hS  w w0 hw) _ r9.2 13 h
          · have h := gb_it hc h
            refine gb_iconst 5 d_X8_readWord_80 rfl ?_
            refine gb_goto 86 d_X8_readWord_81 (by decide) ?_
            refine gb_pick (lv' := [(0, .ref 45), (2, .int r9.2)]) [2, 0] rfl ?_
            exact t_X8_readWord_86 hS (fun w w0 hw => t_X8_readWord_89 hS  w w0 hw) _ r9.2 5 h
        · have h := gb_it hc h
          refine gb_iconst 0 d_X8_readWord_66 rfl ?_
          cases h
          exact gb_zret d_X8_readWord_67 rfl rfl ⟨rfl, rfl, rfl⟩
  · have h := gb_it hc h
    refine gb_iconst 0 d_X8_readWord_27 rfl ?_
    cases h
    exact gb_zret d_X8_readWord_28 rfl rfl ⟨rfl, rfl, rfl⟩
set_option maxRecDepth 100000 in
set_option maxHeartbeats 4000000 in
theorem t_X8_readWord {Γ : gb_X} {sh : List gb_Sh} {out : gb_G × Int32} (hS : gb_S sh) {g : gb_G} (h : f_X8_readWord sh g = some out) : gb_C Γ M_X8_readWord 6 0 0 sh g [.ref 45] (gb_Ri sh out) := by
  refine gb_C.of rfl (Nat.le_of_ble_eq_true rfl) ?_
  refine gb_pick (lv' := [(0, .ref 45)]) [0] rfl ?_
  unfold f_X8_readWord at h
  refine gb_aload_n d_X8_readWord_0 rfl ?_
  refine gb_getr (r := 43) f_X8_26 (hS 45 _ rfl) rfl d_X8_readWord_1 ?_
  refine gb_aload_n d_X8_readWord_4 rfl ?_
  refine gb_geti f_X8_18 (hS 45 _ rfl) rfl d_X8_readWord_5 ?_
  refine gb_if_eq 16 d_X8_readWord_8 (by decide) (fun hc => ?_) (fun hc => ?_)
  · have h := gb_it hc h
    refine gb_ldcS 12 rfl d_X8_readWord_16 ?_
    exact t_X8_readWord_18 hS  _ 12 (by decide) h
  · have h := gb_if hc h
    refine gb_ldcS 11 rfl d_X8_readWord_11 ?_
    refine gb_goto 18 d_X8_readWord_13 (by decide) ?_
    exact t_X8_readWord_18 hS  _ 11 (by decide) h
-- X9_isNumber
noncomputable def f_X9_isNumber (sh : List gb_Sh) (g : gb_G) : Option (gb_G × Int32) := if (g.1 43 4) = 2 then (some (g, 1)) else (some (g, 0))
set_option maxRecDepth 100000 in
set_option maxHeartbeats 4000000 in
theorem t_X9_isNumber {Γ : gb_X} {sh : List gb_Sh} {out : gb_G × Int32} (hS : gb_S sh) {g : gb_G} (h : f_X9_isNumber sh g = some out) : gb_C Γ M_X9_isNumber 0 0 0 sh g [.ref 43] (gb_Ri sh out) := by
  refine gb_C.of rfl (Nat.le_of_ble_eq_true rfl) ?_
  refine gb_pick (lv' := [(0, .ref 43)]) [0] rfl ?_
  unfold f_X9_isNumber at h
  refine gb_aload_n d_X9_isNumber_0 rfl ?_
  refine gb_geti f_X9_25 (hS 43 _ rfl) rfl d_X9_isNumber_1 ?_
  refine gb_iconst 2 d_X9_isNumber_4 rfl ?_
  refine gb_icmp_ne 12 d_X9_isNumber_5 (by decide) (fun hc => ?_) (fun hc => ?_)
  · have h := gb_if hc h
    refine gb_iconst 0 d_X9_isNumber_12 rfl ?_
    cases h
    exact gb_zret d_X9_isNumber_13 rfl rfl ⟨rfl, rfl, rfl⟩
  · have h := gb_it hc h
    refine gb_iconst 1 d_X9_isNumber_8 rfl ?_
    refine gb_goto 13 d_X9_isNumber_9 (by decide) ?_
    cases h
    exact gb_zret d_X9_isNumber_13 rfl rfl ⟨rfl, rfl, rfl⟩
