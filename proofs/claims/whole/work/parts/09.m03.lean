-- J7_fill_d0a16
noncomputable def f_J7_fill_d0a16_6 (sh : List gb_Sh) (a1 : Nat) (n1 : Nat) : Nat → gb_G → Int64 → Int32 → Int32 → Option (gb_G)
  | 0, _, _, _, _ => none
  | n + 1, g, y1, y3, y4 => if y4 ≤ y3 then (some g) else (gb_ck y3 n1 (gb_let (gb_pj g a1 y3.toNatClampNeg y1) (fun g2 => f_J7_fill_d0a16_6 sh a1 n1 n g2 y1 (y3 + 1) y4)))
noncomputable def f_J7_fill_d0a16 (sh : List gb_Sh) (g : gb_G) (a1 : Nat) (n1 : Nat) (x2 : Int64) : Option (gb_G) := f_J7_fill_d0a16_6 sh a1 n1 gb_N g x2 0 (Int32.ofNat n1)
set_option maxRecDepth 100000 in
set_option maxHeartbeats 4000000 in
theorem t_J7_fill_d0a16_6 {Γ : gb_X} {sh : List gb_Sh} {a1 : Nat} {n1 : Nat} {out : gb_G} (hS : gb_S sh) (h_a1 : sh[a1]? = some (.inl (1, n1))) : ∀ (n : Nat) (g : gb_G) (y1 : Int64) (y3 : Int32) (y4 : Int32), f_J7_fill_d0a16_6 sh a1 n1 n g y1 y3 y4 = some out → gb_J Γ M_J7_fill_d0a16 0 (gb_Rv sh out) 0 0 sh g 6 [(0, .ref a1), (1, .long y1), (3, .int y3), (4, .int y4)] [] := by
  intro n
  induction n with
  | zero => intro g y1 y3 y4 h; cases h
  | succ n ih =>
    intro g y1 y3 y4 h
    rw [f_J7_fill_d0a16_6] at h
    refine gb_iload_n d_J7_fill_d0a16_6 rfl ?_
    refine gb_iload d_J7_fill_d0a16_7 rfl ?_
    refine gb_icmp_ge 22 d_J7_fill_d0a16_9 (by decide) (fun hc => ?_) (fun hc => ?_)
    · have h := gb_it hc h
      cases h
      exact gb_vret d_J7_fill_d0a16_22 rfl ⟨rfl, rfl, rfl⟩
    · have h := gb_if hc h
      refine gb_aload_n d_J7_fill_d0a16_12 rfl ?_
      refine gb_iload_n d_J7_fill_d0a16_13 rfl ?_
      refine gb_lload_n d_J7_fill_d0a16_14 rfl ?_
      obtain ⟨hi1, h⟩ := gb_ck_e h
      refine gb_last_ y3.toNatClampNeg rfl h_a1 hi1 d_J7_fill_d0a16_15 ?_
      have h := gb_let_e h
      generalize gb_pj g a1 y3.toNatClampNeg y1 = g2 at h ⊢
      refine gb_iinc (y3 + 1) [(3, .int (y3 + 1)), (0, .ref a1), (1, .long y1), (4, .int y4)] d_J7_fill_d0a16_16 (Nat.le_of_ble_eq_true rfl) rfl rfl rfl ?_
      refine gb_goto 6 d_J7_fill_d0a16_19 (by decide) ?_
      refine gb_pick (lv' := [(0, .ref a1), (1, .long y1), (3, .int (y3 + 1)), (4, .int y4)]) [1, 2, 0, 3] rfl ?_
      exact ih _ y1 (y3 + 1) y4 h
set_option maxRecDepth 100000 in
set_option maxHeartbeats 4000000 in
theorem t_J7_fill_d0a16 {Γ : gb_X} {sh : List gb_Sh} {a1 : Nat} {n1 : Nat} {x2 : Int64} {out : gb_G} (hS : gb_S sh) (h_a1 : sh[a1]? = some (.inl (1, n1))) {g : gb_G} (h : f_J7_fill_d0a16 sh g a1 n1 x2 = some out) : gb_C Γ M_J7_fill_d0a16 0 0 0 sh g [.ref a1, .long x2] (gb_Rv sh out) := by
  refine gb_C.ofF (by decide +kernel) (Nat.le_of_ble_eq_true rfl) ?_
  refine gb_pick (lv' := [(0, .ref a1), (1, .long x2)]) [0, 1] rfl ?_
  unfold f_J7_fill_d0a16 at h
  refine gb_iconst 0 d_J7_fill_d0a16_0 rfl ?_
  refine gb_istore_n [(3, .int 0), (0, .ref a1), (1, .long x2)] d_J7_fill_d0a16_1 (Nat.le_of_ble_eq_true rfl) rfl ?_
  refine gb_aload_n d_J7_fill_d0a16_2 rfl ?_
  refine gb_alen (Int32.ofNat n1) (by decide) h_a1 rfl d_J7_fill_d0a16_3 ?_
  refine gb_istore [(4, .int (Int32.ofNat n1)), (3, .int 0), (0, .ref a1), (1, .long x2)] d_J7_fill_d0a16_4 (Nat.le_of_ble_eq_true rfl) rfl ?_
  refine gb_pick (lv' := [(0, .ref a1), (1, .long x2), (3, .int 0), (4, .int (Int32.ofNat n1))]) [2, 3, 1, 0] rfl ?_
  exact t_J7_fill_d0a16_6 hS h_a1  gb_N _ x2 0 (Int32.ofNat n1) h
-- X6_partsAtTop
noncomputable def f_X6_partsAtTop_60 (sh : List gb_Sh) (K26 : gb_G → Int32 → Int32 → Int32 → Option (gb_G × Int64)) : Nat → gb_G → Int32 → Int32 → Int32 → Int32 → Option (gb_G × Int64)
  | 0, _, _, _, _, _ => none
  | n + 1, g, y2, y3, y4, y5 => if y5 < 1 then (K26 g y2 y3 (y4 + 1)) else (gb_ck y5 13 (gb_ck (y5 - 1) 13 (gb_ck y5 13 (gb_let (gb_pj g 73 y5.toNatClampNeg ((((g.2.1 73 y5.toNatClampNeg) * ((10 - y2).toInt64)) / 10) + (((g.2.1 73 ((y5 - 1).toNatClampNeg)) * y2.toInt64) / 10))) (fun g11 => f_X6_partsAtTop_60 sh K26 n g11 y2 y3 y4 (y5 + (-1)))))))
noncomputable def f_X6_partsAtTop_26 (sh : List gb_Sh) : Nat → gb_G → Int32 → Int32 → Int32 → Option (gb_G × Int64)
  | 0, _, _, _, _ => none
  | n + 1, g, y2, y3, y4 => if y3 ≤ y4 then (some (g, (g.2.1 73 12))) else (gb_let (gb_pj g 73 12 ((g.2.1 73 12) + (((g.2.1 73 11) * y2.toInt64) / 10))) (fun g7 => f_X6_partsAtTop_60 sh (fun w w0 w1 w2 => f_X6_partsAtTop_26 sh n w w0 w1 w2) gb_N g7 y2 y3 y4 11))
noncomputable def f_X6_partsAtTop (sh : List gb_Sh) (g : gb_G) (x1 : Int32) (x2 : Int32) (x3 : Int32) : Option (gb_G × Int64) := gb_bd (f_J7_fill_d0a16 sh g 73 13 0) (fun r1 => gb_bd (f_X10_nearest sh r1 x1 0 12) (fun r3 => gb_ck r3.2 13 (gb_let (gb_pj r3.1 73 r3.2.toNatClampNeg 1000000000000) (fun g6 => f_X6_partsAtTop_26 sh gb_N g6 x2 x3 0))))
set_option maxRecDepth 100000 in
set_option maxHeartbeats 4000000 in
theorem t_X6_partsAtTop_60 {Γ : gb_X} {sh : List gb_Sh} {out : gb_G × Int64} (hS : gb_S sh) {K26 : gb_G → Int32 → Int32 → Int32 → Option (gb_G × Int64)} (hK26 : ∀ (g : gb_G) (y2 : Int32) (y3 : Int32) (y4 : Int32), K26 g y2 y3 y4 = some out → gb_J Γ M_X6_partsAtTop 2 (gb_Rl sh out) 0 0 sh g 26 [(0, .ref 63), (2, .int y2), (3, .int y3), (4, .int y4)] []) : ∀ (n : Nat) (g : gb_G) (y2 : Int32) (y3 : Int32) (y4 : Int32) (y5 : Int32), f_X6_partsAtTop_60 sh K26 n g y2 y3 y4 y5 = some out → gb_J Γ M_X6_partsAtTop 2 (gb_Rl sh out) 0 0 sh g 60 [(0, .ref 63), (2, .int y2), (3, .int y3), (4, .int y4), (5, .int y5)] [] := by
  intro n
  induction n with
  | zero => intro g y2 y3 y4 y5 h; cases h
  | succ n ih =>
    intro g y2 y3 y4 y5 h
    rw [f_X6_partsAtTop_60] at h
    refine gb_iload d_X6_partsAtTop_60 rfl ?_
    refine gb_iconst 1 d_X6_partsAtTop_62 rfl ?_
    refine gb_icmp_lt 113 d_X6_partsAtTop_63 (by decide) (fun hc => ?_) (fun hc => ?_)
    · have h := gb_it hc h
      refine gb_iinc (y4 + 1) [(4, .int (y4 + 1)), (0, .ref 63), (2, .int y2), (3, .int y3), (5, .int y5)] d_X6_partsAtTop_113 (Nat.le_of_ble_eq_true rfl) rfl rfl rfl ?_
      refine gb_goto 26 d_X6_partsAtTop_116 (by decide) ?_
      refine gb_pick (lv' := [(0, .ref 63), (2, .int y2), (3, .int y3), (4, .int (y4 + 1))]) [1, 2, 3, 0] rfl ?_
      exact hK26 _ y2 y3 (y4 + 1) h
    · have h := gb_if hc h
      refine gb_aload_n d_X6_partsAtTop_66 rfl ?_
      refine gb_getr (r := 73) f_X6_46 (hS 63 _ rfl) rfl d_X6_partsAtTop_67 ?_
      refine gb_iload d_X6_partsAtTop_70 rfl ?_
      refine gb_aload_n d_X6_partsAtTop_72 rfl ?_
      refine gb_getr (r := 73) f_X6_46 (hS 63 _ rfl) rfl d_X6_partsAtTop_73 ?_
      refine gb_iload d_X6_partsAtTop_76 rfl ?_
      obtain ⟨hi8, h⟩ := gb_ck_e h
      refine gb_lald_ y5.toNatClampNeg rfl (hS 73 _ rfl) hi8 d_X6_partsAtTop_78 ?_
      refine gb_bipush 10 d_X6_partsAtTop_79 rfl ?_
      refine gb_iload_n d_X6_partsAtTop_81 rfl ?_
      refine gb_isub d_X6_partsAtTop_82 ?_
      refine gb_i2l d_X6_partsAtTop_83 ?_
      refine gb_lmul d_X6_partsAtTop_84 ?_
      refine gb_ldc2 10 k_X6_166 d_X6_partsAtTop_85 ?_
      refine gb_ldiv d_X6_partsAtTop_88 (by decide) ?_
      refine gb_aload_n d_X6_partsAtTop_89 rfl ?_
      refine gb_getr (r := 73) f_X6_46 (hS 63 _ rfl) rfl d_X6_partsAtTop_90 ?_
      refine gb_iload d_X6_partsAtTop_93 rfl ?_
      refine gb_iconst 1 d_X6_partsAtTop_95 rfl ?_
      refine gb_isub d_X6_partsAtTop_96 ?_
      obtain ⟨hi9, h⟩ := gb_ck_e h
      refine gb_lald_ ((y5 - 1).toNatClampNeg) rfl (hS 73 _ rfl) hi9 d_X6_partsAtTop_97 ?_
      refine gb_iload_n d_X6_partsAtTop_98 rfl ?_
      refine gb_i2l d_X6_partsAtTop_99 ?_
      refine gb_lmul d_X6_partsAtTop_100 ?_
      refine gb_ldc2 10 k_X6_166 d_X6_partsAtTop_101 ?_
      refine gb_ldiv d_X6_partsAtTop_104 (by decide) ?_
      refine gb_ladd d_X6_partsAtTop_105 ?_
      obtain ⟨hi10, h⟩ := gb_ck_e h
      refine gb_last_ y5.toNatClampNeg rfl (hS 73 _ rfl) hi10 d_X6_partsAtTop_106 ?_
      have h := gb_let_e h
      generalize gb_pj g 73 y5.toNatClampNeg ((((g.2.1 73 y5.toNatClampNeg) * ((10 - y2).toInt64)) / 10) + (((g.2.1 73 ((y5 - 1).toNatClampNeg)) * y2.toInt64) / 10)) = g11 at h ⊢
      refine gb_iinc (y5 + (-1)) [(5, .int (y5 + (-1))), (0, .ref 63), (2, .int y2), (3, .int y3), (4, .int y4)] d_X6_partsAtTop_107 (Nat.le_of_ble_eq_true rfl) rfl rfl rfl ?_
      refine gb_goto 60 d_X6_partsAtTop_110 (by decide) ?_
      refine gb_pick (lv' := [(0, .ref 63), (2, .int y2), (3, .int y3), (4, .int y4), (5, .int (y5 + (-1)))]) [1, 2, 3, 4, 0] rfl ?_
      exact ih _ y2 y3 y4 (y5 + (-1)) h
set_option maxRecDepth 100000 in
set_option maxHeartbeats 4000000 in
theorem t_X6_partsAtTop_26 {Γ : gb_X} {sh : List gb_Sh} {out : gb_G × Int64} (hS : gb_S sh) : ∀ (n : Nat) (g : gb_G) (y2 : Int32) (y3 : Int32) (y4 : Int32), f_X6_partsAtTop_26 sh n g y2 y3 y4 = some out → gb_J Γ M_X6_partsAtTop 2 (gb_Rl sh out) 0 0 sh g 26 [(0, .ref 63), (2, .int y2), (3, .int y3), (4, .int y4)] [] := by
  intro n
  induction n with
  | zero => intro g y2 y3 y4 h; cases h
  | succ n ih =>
    intro g y2 y3 y4 h
    rw [f_X6_partsAtTop_26] at h
    refine gb_iload d_X6_partsAtTop_26 rfl ?_
    refine gb_iload_n d_X6_partsAtTop_28 rfl ?_
    refine gb_icmp_ge 119 d_X6_partsAtTop_29 (by decide) (fun hc => ?_) (fun hc => ?_)
    · have h := gb_it hc h
      refine gb_aload_n d_X6_partsAtTop_119 rfl ?_
      refine gb_getr (r := 73) f_X6_46 (hS 63 _ rfl) rfl d_X6_partsAtTop_120 ?_
      refine gb_bipush 12 d_X6_partsAtTop_123 rfl ?_
      refine gb_lald_ 12 rfl (hS 73 _ rfl) (by unfold vp_in; decide) d_X6_partsAtTop_125 ?_
      cases h
      exact gb_lret d_X6_partsAtTop_126 rfl ⟨rfl, rfl, rfl⟩
    · have h := gb_if hc h
      refine gb_aload_n d_X6_partsAtTop_32 rfl ?_
      refine gb_getr (r := 73) f_X6_46 (hS 63 _ rfl) rfl d_X6_partsAtTop_33 ?_
      refine gb_bipush 12 d_X6_partsAtTop_36 rfl ?_
      refine gb_dup2 d_X6_partsAtTop_38 rfl rfl ?_
      refine gb_lald_ 12 rfl (hS 73 _ rfl) (by unfold vp_in; decide) d_X6_partsAtTop_39 ?_
      refine gb_aload_n d_X6_partsAtTop_40 rfl ?_
      refine gb_getr (r := 73) f_X6_46 (hS 63 _ rfl) rfl d_X6_partsAtTop_41 ?_
      refine gb_bipush 11 d_X6_partsAtTop_44 rfl ?_
      refine gb_lald_ 11 rfl (hS 73 _ rfl) (by unfold vp_in; decide) d_X6_partsAtTop_46 ?_
      refine gb_iload_n d_X6_partsAtTop_47 rfl ?_
      refine gb_i2l d_X6_partsAtTop_48 ?_
      refine gb_lmul d_X6_partsAtTop_49 ?_
      refine gb_ldc2 10 k_X6_166 d_X6_partsAtTop_50 ?_
      refine gb_ldiv d_X6_partsAtTop_53 (by decide) ?_
      refine gb_ladd d_X6_partsAtTop_54 ?_
      refine gb_last_ 12 rfl (hS 73 _ rfl) (by unfold vp_in; decide) d_X6_partsAtTop_55 ?_
      have h := gb_let_e h
      generalize gb_pj g 73 12 ((g.2.1 73 12) + (((g.2.1 73 11) * y2.toInt64) / 10)) = g7 at h ⊢
      refine gb_bipush 11 d_X6_partsAtTop_56 rfl ?_
      refine gb_istore [(5, .int 11), (0, .ref 63), (2, .int y2), (3, .int y3), (4, .int y4)] d_X6_partsAtTop_58 (Nat.le_of_ble_eq_true rfl) rfl ?_
      refine gb_pick (lv' := [(0, .ref 63), (2, .int y2), (3, .int y3), (4, .int y4), (5, .int 11)]) [1, 2, 3, 4, 0] rfl ?_
      exact t_X6_partsAtTop_60 hS (fun w w0 w1 w2 hw => ih w w0 w1 w2 hw) gb_N _ y2 y3 y4 11 h
set_option maxRecDepth 100000 in
set_option maxHeartbeats 4000000 in
theorem t_X6_partsAtTop {Γ : gb_X} {sh : List gb_Sh} {x1 : Int32} {x2 : Int32} {x3 : Int32} {out : gb_G × Int64} (hS : gb_S sh) {g : gb_G} (h : f_X6_partsAtTop sh g x1 x2 x3 = some out) : gb_C Γ M_X6_partsAtTop 2 0 0 sh g [.ref 63, .int x1, .int x2, .int x3] (gb_Rl sh out) := by
  refine gb_C.of rfl (Nat.le_of_ble_eq_true rfl) ?_
  refine gb_pick (lv' := [(0, .ref 63), (1, .int x1), (2, .int x2), (3, .int x3)]) [0, 1, 2, 3] rfl ?_
  unfold f_X6_partsAtTop at h
  refine gb_aload_n d_X6_partsAtTop_0 rfl ?_
  refine gb_getr (r := 73) f_X6_46 (hS 63 _ rfl) rfl d_X6_partsAtTop_1 ?_
  refine gb_lconst 0 d_X6_partsAtTop_4 rfl ?_
  obtain ⟨r1, e2, h⟩ := gb_bd_e h
  refine gb_cSv (As := [.ref 73, .long 0]) (rest := []) m_X6_158 (t_J7_fill_d0a16 (Γ := Γ) hS (hS 73 _ rfl) e2) (Nat.le_of_ble_eq_true rfl) rfl rfl (Nat.le_of_ble_eq_true rfl) d_X6_partsAtTop_5 ?_
  refine gb_aload_n d_X6_partsAtTop_8 rfl ?_
  refine gb_getr (r := 73) f_X6_46 (hS 63 _ rfl) rfl d_X6_partsAtTop_9 ?_
  refine gb_iload_n d_X6_partsAtTop_12 rfl ?_
  refine gb_iconst 0 d_X6_partsAtTop_13 rfl ?_
  refine gb_bipush 12 d_X6_partsAtTop_14 rfl ?_
  obtain ⟨r3, e4, h⟩ := gb_bd_e h
  refine gb_cSNi (As := [.int x1, .int 0, .int 12]) (rest := [.ref 73]) m_X6_97 (t_X10_nearest (Γ := Γ) hS e4) (Nat.le_of_ble_eq_true rfl) rfl rfl (Nat.le_of_ble_eq_true rfl) d_X6_partsAtTop_16 ?_
  refine gb_ldc2 1000000000000 k_X6_164 d_X6_partsAtTop_19 ?_
  obtain ⟨hi5, h⟩ := gb_ck_e h
  refine gb_last_ r3.2.toNatClampNeg rfl (hS 73 _ rfl) hi5 d_X6_partsAtTop_22 ?_
  have h := gb_let_e h
  generalize gb_pj r3.1 73 r3.2.toNatClampNeg 1000000000000 = g6 at h ⊢
  refine gb_iconst 0 d_X6_partsAtTop_23 rfl ?_
  refine gb_istore [(4, .int 0), (0, .ref 63), (1, .int x1), (2, .int x2), (3, .int x3)] d_X6_partsAtTop_24 (Nat.le_of_ble_eq_true rfl) rfl ?_
  refine gb_pick (lv' := [(0, .ref 63), (2, .int x2), (3, .int x3), (4, .int 0)]) [1, 3, 4, 0] rfl ?_
  exact t_X6_partsAtTop_26 hS  gb_N _ x2 x3 0 h
-- X7_clear
noncomputable def f_X7_clear (sh : List gb_Sh) (g : gb_G) (b : Nat) : Option (gb_G) := gb_let (gb_pi g b 0 0) (fun g1 => gb_let (gb_pi g1 b 3 0) (fun g2 => gb_let (gb_pi g2 b 7 0) (fun g3 => some g3)))
set_option maxRecDepth 100000 in
set_option maxHeartbeats 4000000 in
theorem t_X7_clear {Γ : gb_X} {sh : List gb_Sh} {b : Nat} {out : gb_G} (hS : gb_S sh) (h_b : gb_okX7 sh b) {g : gb_G} (h : f_X7_clear sh g b = some out) : gb_C Γ M_X7_clear 0 0 0 sh g [.ref b] (gb_Rv sh out) := by
  refine gb_C.of rfl (Nat.le_of_ble_eq_true rfl) ?_
  refine gb_pick (lv' := [(0, .ref b)]) [0] rfl ?_
  unfold f_X7_clear at h
  refine gb_aload_n d_X7_clear_0 rfl ?_
  refine gb_iconst 0 d_X7_clear_1 rfl ?_
  refine gb_puti f_X7_9 (fun h => nomatch h) h_b.1 rfl rfl rfl d_X7_clear_2 ?_
  have h := gb_let_e h
  generalize gb_pi g b 0 0 = g1 at h ⊢
  refine gb_aload_n d_X7_clear_5 rfl ?_
  refine gb_iconst 0 d_X7_clear_6 rfl ?_
  refine gb_puti f_X7_15 (fun h => nomatch h) h_b.1 rfl rfl rfl d_X7_clear_7 ?_
  have h := gb_let_e h
  generalize gb_pi g1 b 3 0 = g2 at h ⊢
  refine gb_aload_n d_X7_clear_10 rfl ?_
  refine gb_iconst 0 d_X7_clear_11 rfl ?_
  refine gb_puti f_X7_18 (fun h => nomatch h) h_b.1 rfl rfl rfl d_X7_clear_12 ?_
  have h := gb_let_e h
  generalize gb_pi g2 b 7 0 = g3 at h ⊢
  cases h
  exact gb_vret d_X7_clear_15 rfl ⟨rfl, rfl, rfl⟩
-- X7_beginClause
noncomputable def f_X7_beginClause (sh : List gb_Sh) (g : gb_G) (b : Nat) (x1 : Int32) : Option (gb_G) := if 12 ≤ (g.1 b 3) then (some g) else (gb_ck (g.1 b 3) (gb_ln sh (b + 3)) (gb_let (gb_pi g (b + 3) ((g.1 b 3).toNatClampNeg) x1) (fun g2 => gb_ck (g2.1 b 3) (gb_ln sh (b + 4)) (gb_let (gb_pi g2 (b + 4) ((g2.1 b 3).toNatClampNeg) 1) (fun g4 => some g4)))))
set_option maxRecDepth 100000 in
set_option maxHeartbeats 4000000 in
theorem t_X7_beginClause {Γ : gb_X} {sh : List gb_Sh} {b : Nat} {x1 : Int32} {out : gb_G} (hS : gb_S sh) (h_b : gb_okX7 sh b) {g : gb_G} (h : f_X7_beginClause sh g b x1 = some out) : gb_C Γ M_X7_beginClause 0 0 0 sh g [.ref b, .int x1] (gb_Rv sh out) := by
  refine gb_C.of rfl (Nat.le_of_ble_eq_true rfl) ?_
  refine gb_pick (lv' := [(0, .ref b), (1, .int x1)]) [0, 1] rfl ?_
  unfold f_X7_beginClause at h
  refine gb_aload_n d_X7_beginClause_0 rfl ?_
  refine gb_geti f_X7_15 h_b.1 rfl d_X7_beginClause_1 ?_
  refine gb_bipush 12 d_X7_beginClause_4 rfl ?_
  refine gb_icmp_ge 29 d_X7_beginClause_6 (by decide) (fun hc => ?_) (fun hc => ?_)
  · have h := gb_it hc h
    cases h
    exact gb_vret d_X7_beginClause_29 rfl ⟨rfl, rfl, rfl⟩
  · have h := gb_if hc h
    refine gb_aload_n d_X7_beginClause_9 rfl ?_
    refine gb_getr (r := (b + 3)) f_X7_29 h_b.1 rfl d_X7_beginClause_10 ?_
    refine gb_aload_n d_X7_beginClause_13 rfl ?_
    refine gb_geti f_X7_15 h_b.1 rfl d_X7_beginClause_14 ?_
    refine gb_iload_n d_X7_beginClause_17 rfl ?_
    obtain ⟨hi1, h⟩ := gb_ck_e h
    refine gb_iast_ ((g.1 b 3).toNatClampNeg) rfl h_b.2.2.2.1 hi1 d_X7_beginClause_18 ?_
    have h := gb_let_e h
    generalize gb_pi g (b + 3) ((g.1 b 3).toNatClampNeg) x1 = g2 at h ⊢
    refine gb_aload_n d_X7_beginClause_19 rfl ?_
    refine gb_getr (r := (b + 4)) f_X7_32 h_b.1 rfl d_X7_beginClause_20 ?_
    refine gb_aload_n d_X7_beginClause_23 rfl ?_
    refine gb_geti f_X7_15 h_b.1 rfl d_X7_beginClause_24 ?_
    refine gb_iconst 1 d_X7_beginClause_27 rfl ?_
    obtain ⟨hi3, h⟩ := gb_ck_e h
    refine gb_iast_ ((g2.1 b 3).toNatClampNeg) rfl h_b.2.2.2.2.1 hi3 d_X7_beginClause_28 ?_
    have h := gb_let_e h
    generalize gb_pi g2 (b + 4) ((g2.1 b 3).toNatClampNeg) 1 = g4 at h ⊢
    cases h
    exact gb_vret d_X7_beginClause_29 rfl ⟨rfl, rfl, rfl⟩
-- X7_endPiece
noncomputable def f_X7_endPiece (sh : List gb_Sh) (g : gb_G) (b : Nat) (x1 : Int32) : Option (gb_G) := gb_bd (f_X10_within sh g ((((g.1 b 3) * 3) + x1) + 1) 0 ((Int32.ofNat (gb_ln sh (b + 5))) - 1)) (fun r1 => if r1.2 = 0 then (some r1.1) else (gb_ck ((((g.1 b 3) * 3) + x1) + 1) (gb_ln sh (b + 5)) (gb_let (gb_pi r1.1 (b + 5) (((((g.1 b 3) * 3) + x1) + 1).toNatClampNeg) (r1.1.1 b 0)) (fun g4 => some g4))))
set_option maxRecDepth 100000 in
set_option maxHeartbeats 4000000 in
theorem t_X7_endPiece {Γ : gb_X} {sh : List gb_Sh} {b : Nat} {x1 : Int32} {out : gb_G} (hS : gb_S sh) (h_b : gb_okX7 sh b) {g : gb_G} (h : f_X7_endPiece sh g b x1 = some out) : gb_C Γ M_X7_endPiece 1 0 0 sh g [.ref b, .int x1] (gb_Rv sh out) := by
  refine gb_C.of rfl (Nat.le_of_ble_eq_true rfl) ?_
  refine gb_pick (lv' := [(0, .ref b), (1, .int x1)]) [0, 1] rfl ?_
  unfold f_X7_endPiece at h
  refine gb_aload_n d_X7_endPiece_0 rfl ?_
  refine gb_geti f_X7_15 h_b.1 rfl d_X7_endPiece_1 ?_
  refine gb_iconst 3 d_X7_endPiece_4 rfl ?_
  refine gb_imul d_X7_endPiece_5 ?_
  refine gb_iload_n d_X7_endPiece_6 rfl ?_
  refine gb_iadd d_X7_endPiece_7 ?_
  refine gb_iconst 1 d_X7_endPiece_8 rfl ?_
  refine gb_iadd d_X7_endPiece_9 ?_
  refine gb_istore_n [(2, .int ((((g.1 b 3) * 3) + x1) + 1)), (0, .ref b), (1, .int x1)] d_X7_endPiece_10 (Nat.le_of_ble_eq_true rfl) rfl ?_
  refine gb_iload_n d_X7_endPiece_11 rfl ?_
  refine gb_iconst 0 d_X7_endPiece_12 rfl ?_
  refine gb_aload_n d_X7_endPiece_13 rfl ?_
  refine gb_getr (r := (b + 5)) f_X7_35 h_b.1 rfl d_X7_endPiece_14 ?_
  refine gb_alen (Int32.ofNat (gb_ln sh (b + 5))) (by decide) h_b.2.2.2.2.2 rfl d_X7_endPiece_17 ?_
  refine gb_iconst 1 d_X7_endPiece_18 rfl ?_
  refine gb_isub d_X7_endPiece_19 ?_
  obtain ⟨r1, e2, h⟩ := gb_bd_e h
  refine gb_cSNi (As := [.int ((((g.1 b 3) * 3) + x1) + 1), .int 0, .int ((Int32.ofNat (gb_ln sh (b + 5))) - 1)]) (rest := []) m_X7_48 (t_X10_within (Γ := Γ) hS e2) (Nat.le_of_ble_eq_true rfl) rfl rfl (Nat.le_of_ble_eq_true rfl) d_X7_endPiece_20 ?_
  refine gb_if_eq 36 d_X7_endPiece_23 (by decide) (fun hc => ?_) (fun hc => ?_)
  · have h := gb_it hc h
    cases h
    exact gb_vret d_X7_endPiece_36 rfl ⟨rfl, rfl, rfl⟩
  · have h := gb_if hc h
    refine gb_aload_n d_X7_endPiece_26 rfl ?_
    refine gb_getr (r := (b + 5)) f_X7_35 h_b.1 rfl d_X7_endPiece_27 ?_
    refine gb_iload_n d_X7_endPiece_30 rfl ?_
    refine gb_aload_n d_X7_endPiece_31 rfl ?_
    refine gb_geti f_X7_9 h_b.1 rfl d_X7_endPiece_32 ?_
    obtain ⟨hi3, h⟩ := gb_ck_e h
    refine gb_iast_ (((((g.1 b 3) * 3) + x1) + 1).toNatClampNeg) rfl h_b.2.2.2.2.2 hi3 d_X7_endPiece_35 ?_
    have h := gb_let_e h
    generalize gb_pi r1.1 (b + 5) (((((g.1 b 3) * 3) + x1) + 1).toNatClampNeg) (r1.1.1 b 0) = g4 at h ⊢
    cases h
    exact gb_vret d_X7_endPiece_36 rfl ⟨rfl, rfl, rfl⟩
-- X7_emit
noncomputable def f_X7_emit (sh : List gb_Sh) (g : gb_G) (b : Nat) (x1 : Int32) (x2 : Int32) : Option (gb_G × Int32) := if (Int32.ofNat (gb_ln sh (b + 1))) ≤ (g.1 b 0) then (some (g, (g.1 b 0))) else (if (Int32.ofNat (gb_ln sh (b + 2))) ≤ (g.1 b 0) then (some (g, (g.1 b 0))) else (gb_ck (g.1 b 0) (gb_ln sh (b + 1)) (gb_let (gb_pi g (b + 1) ((g.1 b 0).toNatClampNeg) x1) (fun g2 => gb_ck (g.1 b 0) (gb_ln sh (b + 2)) (gb_let (gb_pi g2 (b + 2) ((g.1 b 0).toNatClampNeg) x2) (fun g4 => gb_let (gb_pi g4 b 0 ((g4.1 b 0) + 1)) (fun g5 => some (g5, (g.1 b 0)))))))))
set_option maxRecDepth 100000 in
set_option maxHeartbeats 4000000 in
theorem t_X7_emit {Γ : gb_X} {sh : List gb_Sh} {b : Nat} {x1 : Int32} {x2 : Int32} {out : gb_G × Int32} (hS : gb_S sh) (h_b : gb_okX7 sh b) {g : gb_G} (h : f_X7_emit sh g b x1 x2 = some out) : gb_C Γ M_X7_emit 0 0 0 sh g [.ref b, .int x1, .int x2] (gb_Ri sh out) := by
  refine gb_C.of rfl (Nat.le_of_ble_eq_true rfl) ?_
  refine gb_pick (lv' := [(0, .ref b), (1, .int x1), (2, .int x2)]) [0, 1, 2] rfl ?_
  unfold f_X7_emit at h
  refine gb_aload_n d_X7_emit_0 rfl ?_
  refine gb_geti f_X7_9 h_b.1 rfl d_X7_emit_1 ?_
  refine gb_istore_n [(3, .int (g.1 b 0)), (0, .ref b), (1, .int x1), (2, .int x2)] d_X7_emit_4 (Nat.le_of_ble_eq_true rfl) rfl ?_
  refine gb_iload_n d_X7_emit_5 rfl ?_
  refine gb_aload_n d_X7_emit_6 rfl ?_
  refine gb_getr (r := (b + 1)) f_X7_22 h_b.1 rfl d_X7_emit_7 ?_
  refine gb_alen (Int32.ofNat (gb_ln sh (b + 1))) (by decide) h_b.2.1 rfl d_X7_emit_10 ?_
  refine gb_icmp_ge 47 d_X7_emit_11 (by decide) (fun hc => ?_) (fun hc => ?_)
  · have h := gb_it hc h
    refine gb_iload_n d_X7_emit_47 rfl ?_
    cases h
    exact gb_iret d_X7_emit_48 rfl ⟨rfl, rfl, rfl⟩
  · have h := gb_if hc h
    refine gb_iload_n d_X7_emit_14 rfl ?_
    refine gb_aload_n d_X7_emit_15 rfl ?_
    refine gb_getr (r := (b + 2)) f_X7_26 h_b.1 rfl d_X7_emit_16 ?_
    refine gb_alen (Int32.ofNat (gb_ln sh (b + 2))) (by decide) h_b.2.2.1 rfl d_X7_emit_19 ?_
    refine gb_icmp_ge 47 d_X7_emit_20 (by decide) (fun hc => ?_) (fun hc => ?_)
    · have h := gb_it hc h
      refine gb_iload_n d_X7_emit_47 rfl ?_
      cases h
      exact gb_iret d_X7_emit_48 rfl ⟨rfl, rfl, rfl⟩
    · have h := gb_if hc h
      refine gb_aload_n d_X7_emit_23 rfl ?_
      refine gb_getr (r := (b + 1)) f_X7_22 h_b.1 rfl d_X7_emit_24 ?_
      refine gb_iload_n d_X7_emit_27 rfl ?_
      refine gb_iload_n d_X7_emit_28 rfl ?_
      obtain ⟨hi1, h⟩ := gb_ck_e h
      refine gb_iast_ ((g.1 b 0).toNatClampNeg) rfl h_b.2.1 hi1 d_X7_emit_29 ?_
      have h := gb_let_e h
      generalize gb_pi g (b + 1) ((g.1 b 0).toNatClampNeg) x1 = g2 at h ⊢
      refine gb_aload_n d_X7_emit_30 rfl ?_
      refine gb_getr (r := (b + 2)) f_X7_26 h_b.1 rfl d_X7_emit_31 ?_
      refine gb_iload_n d_X7_emit_34 rfl ?_
      refine gb_iload_n d_X7_emit_35 rfl ?_
      obtain ⟨hi3, h⟩ := gb_ck_e h
      refine gb_iast_ ((g.1 b 0).toNatClampNeg) rfl h_b.2.2.1 hi3 d_X7_emit_36 ?_
      have h := gb_let_e h
      generalize gb_pi g2 (b + 2) ((g.1 b 0).toNatClampNeg) x2 = g4 at h ⊢
      refine gb_aload_n d_X7_emit_37 rfl ?_
      refine gb_dup d_X7_emit_38 rfl ?_
      refine gb_geti f_X7_9 h_b.1 rfl d_X7_emit_39 ?_
      refine gb_iconst 1 d_X7_emit_42 rfl ?_
      refine gb_iadd d_X7_emit_43 ?_
      refine gb_puti f_X7_9 (fun h => nomatch h) h_b.1 rfl rfl rfl d_X7_emit_44 ?_
      have h := gb_let_e h
      generalize gb_pi g4 b 0 ((g4.1 b 0) + 1) = g5 at h ⊢
      refine gb_iload_n d_X7_emit_47 rfl ?_
      cases h
      exact gb_iret d_X7_emit_48 rfl ⟨rfl, rfl, rfl⟩
-- X7_aimHere
noncomputable def f_X7_aimHere (sh : List gb_Sh) (g : gb_G) (b : Nat) (x1 : Int32) : Option (gb_G) := gb_bd (f_X10_within sh g x1 0 ((Int32.ofNat (gb_ln sh (b + 2))) - 1)) (fun r1 => if r1.2 = 0 then (some r1.1) else (gb_ck x1 (gb_ln sh (b + 2)) (gb_let (gb_pi r1.1 (b + 2) x1.toNatClampNeg (r1.1.1 b 0)) (fun g4 => some g4))))
set_option maxRecDepth 100000 in
set_option maxHeartbeats 4000000 in
theorem t_X7_aimHere {Γ : gb_X} {sh : List gb_Sh} {b : Nat} {x1 : Int32} {out : gb_G} (hS : gb_S sh) (h_b : gb_okX7 sh b) {g : gb_G} (h : f_X7_aimHere sh g b x1 = some out) : gb_C Γ M_X7_aimHere 1 0 0 sh g [.ref b, .int x1] (gb_Rv sh out) := by
  refine gb_C.of rfl (Nat.le_of_ble_eq_true rfl) ?_
  refine gb_pick (lv' := [(0, .ref b), (1, .int x1)]) [0, 1] rfl ?_
  unfold f_X7_aimHere at h
  refine gb_iload_n d_X7_aimHere_0 rfl ?_
  refine gb_iconst 0 d_X7_aimHere_1 rfl ?_
  refine gb_aload_n d_X7_aimHere_2 rfl ?_
  refine gb_getr (r := (b + 2)) f_X7_26 h_b.1 rfl d_X7_aimHere_3 ?_
  refine gb_alen (Int32.ofNat (gb_ln sh (b + 2))) (by decide) h_b.2.2.1 rfl d_X7_aimHere_6 ?_
  refine gb_iconst 1 d_X7_aimHere_7 rfl ?_
  refine gb_isub d_X7_aimHere_8 ?_
  obtain ⟨r1, e2, h⟩ := gb_bd_e h
  refine gb_cSNi (As := [.int x1, .int 0, .int ((Int32.ofNat (gb_ln sh (b + 2))) - 1)]) (rest := []) m_X7_48 (t_X10_within (Γ := Γ) hS e2) (Nat.le_of_ble_eq_true rfl) rfl rfl (Nat.le_of_ble_eq_true rfl) d_X7_aimHere_9 ?_
  refine gb_if_eq 25 d_X7_aimHere_12 (by decide) (fun hc => ?_) (fun hc => ?_)
  · have h := gb_it hc h
    cases h
    exact gb_vret d_X7_aimHere_25 rfl ⟨rfl, rfl, rfl⟩
  · have h := gb_if hc h
    refine gb_aload_n d_X7_aimHere_15 rfl ?_
    refine gb_getr (r := (b + 2)) f_X7_26 h_b.1 rfl d_X7_aimHere_16 ?_
    refine gb_iload_n d_X7_aimHere_19 rfl ?_
    refine gb_aload_n d_X7_aimHere_20 rfl ?_
    refine gb_geti f_X7_9 h_b.1 rfl d_X7_aimHere_21 ?_
    obtain ⟨hi3, h⟩ := gb_ck_e h
    refine gb_iast_ x1.toNatClampNeg rfl h_b.2.2.1 hi3 d_X7_aimHere_24 ?_
    have h := gb_let_e h
    generalize gb_pi r1.1 (b + 2) x1.toNatClampNeg (r1.1.1 b 0) = g4 at h ⊢
    cases h
    exact gb_vret d_X7_aimHere_25 rfl ⟨rfl, rfl, rfl⟩
-- X9_byteAt
noncomputable def f_X9_byteAt (sh : List gb_Sh) (g : gb_G) (x1 : Int32) : Option (gb_G × Int32) := if x1 < 0 then (some (g, (-1))) else (if (g.1 43 1) ≤ x1 then (some (g, (-1))) else (if 400 ≤ x1 then (some (g, (-1))) else (gb_ck x1 400 (some (g, (g.1 44 x1.toNatClampNeg))))))
set_option maxRecDepth 100000 in
set_option maxHeartbeats 4000000 in
theorem t_X9_byteAt {Γ : gb_X} {sh : List gb_Sh} {x1 : Int32} {out : gb_G × Int32} (hS : gb_S sh) {g : gb_G} (h : f_X9_byteAt sh g x1 = some out) : gb_C Γ M_X9_byteAt 0 0 0 sh g [.ref 43, .int x1] (gb_Ri sh out) := by
  refine gb_C.of rfl (Nat.le_of_ble_eq_true rfl) ?_
  refine gb_pick (lv' := [(0, .ref 43), (1, .int x1)]) [0, 1] rfl ?_
  unfold f_X9_byteAt at h
  refine gb_iload_n d_X9_byteAt_0 rfl ?_
  refine gb_if_lt 28 d_X9_byteAt_1 (by decide) (fun hc => ?_) (fun hc => ?_)
  · have h := gb_it hc h
    refine gb_iconst (-1) d_X9_byteAt_28 rfl ?_
    cases h
    exact gb_iret d_X9_byteAt_29 rfl ⟨rfl, rfl, rfl⟩
  · have h := gb_if hc h
    refine gb_iload_n d_X9_byteAt_4 rfl ?_
    refine gb_aload_n d_X9_byteAt_5 rfl ?_
    refine gb_geti f_X9_15 (hS 43 _ rfl) rfl d_X9_byteAt_6 ?_
    refine gb_icmp_ge 28 d_X9_byteAt_9 (by decide) (fun hc => ?_) (fun hc => ?_)
    · have h := gb_it hc h
      refine gb_iconst (-1) d_X9_byteAt_28 rfl ?_
      cases h
      exact gb_iret d_X9_byteAt_29 rfl ⟨rfl, rfl, rfl⟩
    · have h := gb_if hc h
      refine gb_iload_n d_X9_byteAt_12 rfl ?_
      refine gb_sipush 400 d_X9_byteAt_13 rfl ?_
      refine gb_icmp_ge 28 d_X9_byteAt_16 (by decide) (fun hc => ?_) (fun hc => ?_)
      · have h := gb_it hc h
        refine gb_iconst (-1) d_X9_byteAt_28 rfl ?_
        cases h
        exact gb_iret d_X9_byteAt_29 rfl ⟨rfl, rfl, rfl⟩
      · have h := gb_if hc h
        refine gb_aload_n d_X9_byteAt_19 rfl ?_
        refine gb_getr (r := 44) f_X9_9 (hS 43 _ rfl) rfl d_X9_byteAt_20 ?_
        refine gb_iload_n d_X9_byteAt_23 rfl ?_
        obtain ⟨hi1, h⟩ := gb_ck_e h
        refine gb_iald_ x1.toNatClampNeg rfl (hS 44 _ rfl) hi1 d_X9_byteAt_24 ?_
        refine gb_goto 29 d_X9_byteAt_25 (by decide) ?_
        cases h
        exact gb_iret d_X9_byteAt_29 rfl ⟨rfl, rfl, rfl⟩
-- X9_kindOf
noncomputable def f_X9_kindOf_14 (sh : List gb_Sh) (g : gb_G) (y0 : Int32) : Option (gb_G × Int32) := if y0 < 48 then (some (g, 0)) else (if 57 < y0 then (some (g, 0)) else (some (g, 2)))
noncomputable def f_X9_kindOf (sh : List gb_Sh) (g : gb_G) (x1 : Int32) : Option (gb_G × Int32) := if x1 < 97 then (f_X9_kindOf_14 sh g x1) else (if 122 < x1 then (f_X9_kindOf_14 sh g x1) else (some (g, 1)))
set_option maxRecDepth 100000 in
set_option maxHeartbeats 4000000 in
theorem t_X9_kindOf_14 {Γ : gb_X} {sh : List gb_Sh} {out : gb_G × Int32} (hS : gb_S sh) : ∀ (g : gb_G) (y0 : Int32), f_X9_kindOf_14 sh g y0 = some out → gb_J Γ M_X9_kindOf 0 (gb_Ri sh out) 0 0 sh g 14 [(0, .int y0)] [] := by
  intro g y0 h
  unfold f_X9_kindOf_14 at h
  refine gb_iload_n d_X9_kindOf_14 rfl ?_
  refine gb_bipush 48 d_X9_kindOf_15 rfl ?_
  refine gb_icmp_lt 30 d_X9_kindOf_17 (by decide) (fun hc => ?_) (fun hc => ?_)
  · have h := gb_it hc h
    refine gb_iconst 0 d_X9_kindOf_30 rfl ?_
    cases h
    exact gb_iret d_X9_kindOf_31 rfl ⟨rfl, rfl, rfl⟩
  · have h := gb_if hc h
    refine gb_iload_n d_X9_kindOf_20 rfl ?_
    refine gb_bipush 57 d_X9_kindOf_21 rfl ?_
    refine gb_icmp_gt 30 d_X9_kindOf_23 (by decide) (fun hc => ?_) (fun hc => ?_)
    · have h := gb_it hc h
      refine gb_iconst 0 d_X9_kindOf_30 rfl ?_
      cases h
      exact gb_iret d_X9_kindOf_31 rfl ⟨rfl, rfl, rfl⟩
    · have h := gb_if hc h
      refine gb_iconst 2 d_X9_kindOf_26 rfl ?_
      refine gb_goto 31 d_X9_kindOf_27 (by decide) ?_
      cases h
      exact gb_iret d_X9_kindOf_31 rfl ⟨rfl, rfl, rfl⟩
set_option maxRecDepth 100000 in
set_option maxHeartbeats 4000000 in
theorem t_X9_kindOf {Γ : gb_X} {sh : List gb_Sh} {x1 : Int32} {out : gb_G × Int32} (hS : gb_S sh) {g : gb_G} (h : f_X9_kindOf sh g x1 = some out) : gb_C Γ M_X9_kindOf 0 0 0 sh g [.int x1] (gb_Ri sh out) := by
  refine gb_C.of rfl (Nat.le_of_ble_eq_true rfl) ?_
  refine gb_pick (lv' := [(0, .int x1)]) [0] rfl ?_
  unfold f_X9_kindOf at h
  refine gb_iload_n d_X9_kindOf_0 rfl ?_
  refine gb_bipush 97 d_X9_kindOf_1 rfl ?_
  refine gb_icmp_lt 14 d_X9_kindOf_3 (by decide) (fun hc => ?_) (fun hc => ?_)
  · have h := gb_it hc h
    exact t_X9_kindOf_14 hS  _ x1 h
  · have h := gb_if hc h
    refine gb_iload_n d_X9_kindOf_6 rfl ?_
    refine gb_bipush 122 d_X9_kindOf_7 rfl ?_
    refine gb_icmp_gt 14 d_X9_kindOf_9 (by decide) (fun hc => ?_) (fun hc => ?_)
    · have h := gb_it hc h
      exact t_X9_kindOf_14 hS  _ x1 h
    · have h := gb_if hc h
      refine gb_iconst 1 d_X9_kindOf_12 rfl ?_
      cases h
      exact gb_iret d_X9_kindOf_13 rfl ⟨rfl, rfl, rfl⟩
-- X9_step
noncomputable def f_X9_step_77 (sh : List gb_Sh) : Nat → gb_G → Option (gb_G)
  | 0, _ => none
  | n + 1, g => if (g.1 43 4) = 0 then (some g) else (if (g.1 43 1) ≤ (g.1 43 3) then (some g) else (gb_bd (f_X9_byteAt sh g (g.1 43 3)) (fun r10 => gb_bd (f_X9_kindOf sh r10.1 r10.2) (fun r12 => if r12.2 = (r12.1.1 43 4) then (gb_let (gb_pi r12.1 43 3 ((r12.1.1 43 3) + 1)) (fun g14 => f_X9_step_77 sh n g14 )) else (some r12.1)))))
noncomputable def f_X9_step_45 (sh : List gb_Sh) (g : gb_G)  : Option (gb_G) := gb_bd (f_X9_byteAt sh g (g.1 43 2)) (fun r2 => gb_bd (f_X9_kindOf sh r2.1 r2.2) (fun r4 => gb_let (gb_pi r4.1 43 4 r4.2) (fun g6 => gb_bd (f_J9_min_7cf53 sh g6 (g6.1 43 1) ((g6.1 43 2) + 1)) (fun r7 => gb_let (gb_pi r7.1 43 3 r7.2) (fun g9 => f_X9_step_77 sh gb_N g9 )))))
noncomputable def f_X9_step_8 (sh : List gb_Sh) : Nat → gb_G → Option (gb_G)
  | 0, _ => none
  | n + 1, g => if (g.1 43 1) ≤ (g.1 43 2) then (f_X9_step_45 sh g ) else (gb_bd (f_X9_byteAt sh g (g.1 43 2)) (fun r15 => if r15.2 = 32 then (gb_let (gb_pi r15.1 43 2 ((r15.1.1 43 2) + 1)) (fun g17 => f_X9_step_8 sh n g17 )) else (f_X9_step_45 sh r15.1 )))
noncomputable def f_X9_step (sh : List gb_Sh) (g : gb_G) : Option (gb_G) := gb_let (gb_pi g 43 2 (g.1 43 3)) (fun g1 => f_X9_step_8 sh gb_N g1 )
set_option maxRecDepth 100000 in
set_option maxHeartbeats 4000000 in
theorem t_X9_step_77 {Γ : gb_X} {sh : List gb_Sh} {out : gb_G} (hS : gb_S sh) : ∀ (n : Nat) (g : gb_G) , f_X9_step_77 sh n g  = some out → gb_J Γ M_X9_step 1 (gb_Rv sh out) 0 0 sh g 77 [(0, .ref 43)] [] := by
  intro n
  induction n with
  | zero => intro g  h; cases h
  | succ n ih =>
    intro g  h
    rw [f_X9_step_77] at h
    refine gb_aload_n d_X9_step_77 rfl ?_
    refine gb_geti f_X9_25 (hS 43 _ rfl) rfl d_X9_step_78 ?_
    refine gb_if_eq 126 d_X9_step_81 (by decide) (fun hc => ?_) (fun hc => ?_)
    · have h := gb_it hc h
      cases h
      exact gb_vret d_X9_step_126 rfl ⟨rfl, rfl, rfl⟩
    · have h := gb_if hc h
      refine gb_aload_n d_X9_step_84 rfl ?_
      refine gb_geti f_X9_22 (hS 43 _ rfl) rfl d_X9_step_85 ?_
      refine gb_aload_n d_X9_step_88 rfl ?_
      refine gb_geti f_X9_15 (hS 43 _ rfl) rfl d_X9_step_89 ?_
      refine gb_icmp_ge 126 d_X9_step_92 (by decide) (fun hc => ?_) (fun hc => ?_)
      · have h := gb_it hc h
        cases h
        exact gb_vret d_X9_step_126 rfl ⟨rfl, rfl, rfl⟩
      · have h := gb_if hc h
        refine gb_aload_n d_X9_step_95 rfl ?_
        refine gb_aload_n d_X9_step_96 rfl ?_
        refine gb_geti f_X9_22 (hS 43 _ rfl) rfl d_X9_step_97 ?_
        obtain ⟨r10, e11, h⟩ := gb_bd_e h
        refine gb_cVi (As := [.int (g.1 43 3)]) (rest := []) m_X9_31 (t_X9_byteAt (Γ := Γ) hS e11) (hS 43 _ rfl) rfl (Nat.le_of_ble_eq_true rfl) rfl rfl (Nat.le_of_ble_eq_true rfl) d_X9_step_100 ?_
        obtain ⟨r12, e13, h⟩ := gb_bd_e h
        refine gb_cSi (As := [.int r10.2]) (rest := []) m_X9_35 (t_X9_kindOf (Γ := Γ) hS e13) (Nat.le_of_ble_eq_true rfl) rfl rfl (Nat.le_of_ble_eq_true rfl) d_X9_step_103 ?_
        refine gb_aload_n d_X9_step_106 rfl ?_
        refine gb_geti f_X9_25 (hS 43 _ rfl) rfl d_X9_step_107 ?_
        refine gb_icmp_ne 126 d_X9_step_110 (by decide) (fun hc => ?_) (fun hc => ?_)
        · have h := gb_if hc h
          cases h
          exact gb_vret d_X9_step_126 rfl ⟨rfl, rfl, rfl⟩
        · have h := gb_it hc h
          refine gb_aload_n d_X9_step_113 rfl ?_
          refine gb_dup d_X9_step_114 rfl ?_
          refine gb_geti f_X9_22 (hS 43 _ rfl) rfl d_X9_step_115 ?_
          refine gb_iconst 1 d_X9_step_118 rfl ?_
          refine gb_iadd d_X9_step_119 ?_
          refine gb_puti f_X9_22 (fun h => nomatch h) (hS 43 _ rfl) rfl rfl rfl d_X9_step_120 ?_
          have h := gb_let_e h
          generalize gb_pi r12.1 43 3 ((r12.1.1 43 3) + 1) = g14 at h ⊢
          refine gb_goto 77 d_X9_step_123 (by decide) ?_
          exact ih _  h
set_option maxRecDepth 100000 in
set_option maxHeartbeats 4000000 in
theorem t_X9_step_45 {Γ : gb_X} {sh : List gb_Sh} {out : gb_G} (hS : gb_S sh) : ∀ (g : gb_G) , f_X9_step_45 sh g  = some out → gb_J Γ M_X9_step 1 (gb_Rv sh out) 0 0 sh g 45 [(0, .ref 43)] [] := by
  intro g  h
  unfold f_X9_step_45 at h
  refine gb_aload_n d_X9_step_45 rfl ?_
  refine gb_aload_n d_X9_step_46 rfl ?_
  refine gb_aload_n d_X9_step_47 rfl ?_
  refine gb_geti f_X9_19 (hS 43 _ rfl) rfl d_X9_step_48 ?_
  obtain ⟨r2, e3, h⟩ := gb_bd_e h
  refine gb_cVi (As := [.int (g.1 43 2)]) (rest := [.ref 43]) m_X9_31 (t_X9_byteAt (Γ := Γ) hS e3) (hS 43 _ rfl) rfl (Nat.le_of_ble_eq_true rfl) rfl rfl (Nat.le_of_ble_eq_true rfl) d_X9_step_51 ?_
  obtain ⟨r4, e5, h⟩ := gb_bd_e h
  refine gb_cSi (As := [.int r2.2]) (rest := [.ref 43]) m_X9_35 (t_X9_kindOf (Γ := Γ) hS e5) (Nat.le_of_ble_eq_true rfl) rfl rfl (Nat.le_of_ble_eq_true rfl) d_X9_step_54 ?_
  refine gb_puti f_X9_25 (fun h => nomatch h) (hS 43 _ rfl) rfl rfl rfl d_X9_step_57 ?_
  have h := gb_let_e h
  generalize gb_pi r4.1 43 4 r4.2 = g6 at h ⊢
  refine gb_aload_n d_X9_step_60 rfl ?_
  refine gb_aload_n d_X9_step_61 rfl ?_
  refine gb_geti f_X9_15 (hS 43 _ rfl) rfl d_X9_step_62 ?_
  refine gb_aload_n d_X9_step_65 rfl ?_
  refine gb_geti f_X9_19 (hS 43 _ rfl) rfl d_X9_step_66 ?_
  refine gb_iconst 1 d_X9_step_69 rfl ?_
  refine gb_iadd d_X9_step_70 ?_
  obtain ⟨r7, e8, h⟩ := gb_bd_e h
  refine gb_cSi (As := [.int (g6.1 43 1), .int ((g6.1 43 2) + 1)]) (rest := [.ref 43]) m_X9_38 (t_J9_min_7cf53 (Γ := Γ) hS e8) (Nat.le_of_ble_eq_true rfl) rfl rfl (Nat.le_of_ble_eq_true rfl) d_X9_step_71 ?_
  refine gb_puti f_X9_22 (fun h => nomatch h) (hS 43 _ rfl) rfl rfl rfl d_X9_step_74 ?_
  have h := gb_let_e h
  generalize gb_pi r7.1 43 3 r7.2 = g9 at h ⊢
  exact t_X9_step_77 hS  gb_N _  h
set_option maxRecDepth 100000 in
set_option maxHeartbeats 4000000 in
theorem t_X9_step_8 {Γ : gb_X} {sh : List gb_Sh} {out : gb_G} (hS : gb_S sh) : ∀ (n : Nat) (g : gb_G) , f_X9_step_8 sh n g  = some out → gb_J Γ M_X9_step 1 (gb_Rv sh out) 0 0 sh g 8 [(0, .ref 43)] [] := by
  intro n
  induction n with
  | zero => intro g  h; cases h
  | succ n ih =>
    intro g  h
    rw [f_X9_step_8] at h
    refine gb_aload_n d_X9_step_8 rfl ?_
    refine gb_geti f_X9_19 (hS 43 _ rfl) rfl d_X9_step_9 ?_
    refine gb_aload_n d_X9_step_12 rfl ?_
    refine gb_geti f_X9_15 (hS 43 _ rfl) rfl d_X9_step_13 ?_
    refine gb_icmp_ge 45 d_X9_step_16 (by decide) (fun hc => ?_) (fun hc => ?_)
    · have h := gb_it hc h
      exact t_X9_step_45 hS  _  h
    · have h := gb_if hc h
      refine gb_aload_n d_X9_step_19 rfl ?_
      refine gb_aload_n d_X9_step_20 rfl ?_
      refine gb_geti f_X9_19 (hS 43 _ rfl) rfl d_X9_step_21 ?_
      obtain ⟨r15, e16, h⟩ := gb_bd_e h
      refine gb_cVi (As := [.int (g.1 43 2)]) (rest := []) m_X9_31 (t_X9_byteAt (Γ := Γ) hS e16) (hS 43 _ rfl) rfl (Nat.le_of_ble_eq_true rfl) rfl rfl (Nat.le_of_ble_eq_true rfl) d_X9_step_24 ?_
      refine gb_bipush 32 d_X9_step_27 rfl ?_
      refine gb_icmp_ne 45 d_X9_step_29 (by decide) (fun hc => ?_) (fun hc => ?_)
      · have h := gb_if hc h
        exact t_X9_step_45 hS  _  h
      · have h := gb_it hc h
        refine gb_aload_n d_X9_step_32 rfl ?_
        refine gb_dup d_X9_step_33 rfl ?_
        refine gb_geti f_X9_19 (hS 43 _ rfl) rfl d_X9_step_34 ?_
        refine gb_iconst 1 d_X9_step_37 rfl ?_
        refine gb_iadd d_X9_step_38 ?_
        refine gb_puti f_X9_19 (fun h => nomatch h) (hS 43 _ rfl) rfl rfl rfl d_X9_step_39 ?_
        have h := gb_let_e h
        generalize gb_pi r15.1 43 2 ((r15.1.1 43 2) + 1) = g17 at h ⊢
        refine gb_goto 8 d_X9_step_42 (by decide) ?_
        exact ih _  h
set_option maxRecDepth 100000 in
set_option maxHeartbeats 4000000 in
theorem t_X9_step {Γ : gb_X} {sh : List gb_Sh} {out : gb_G} (hS : gb_S sh) {g : gb_G} (h : f_X9_step sh g = some out) : gb_C Γ M_X9_step 1 0 0 sh g [.ref 43] (gb_Rv sh out) := by
  refine gb_C.of rfl (Nat.le_of_ble_eq_true rfl) ?_
  refine gb_pick (lv' := [(0, .ref 43)]) [0] rfl ?_
  unfold f_X9_step at h
  refine gb_aload_n d_X9_step_0 rfl ?_
  refine gb_aload_n d_X9_step_1 rfl ?_
  refine gb_geti f_X9_22 (hS 43 _ rfl) rfl d_X9_step_2 ?_
  refine gb_puti f_X9_19 (fun h => nomatch h) (hS 43 _ rfl) rfl rfl rfl d_X9_step_5 ?_
  have h := gb_let_e h
  generalize gb_pi g 43 2 (g.1 43 3) = g1 at h ⊢
  exact t_X9_step_8 hS  gb_N _  h
-- X9_number
noncomputable def f_X9_number_17 (sh : List gb_Sh) : Nat → gb_G → Int32 → Int32 → Option (gb_G × Int32)
  | 0, _, _, _ => none
  | n + 1, g, y1, y2 => if (g.1 43 3) ≤ y2 then (some (g, y1)) else (gb_bd (f_X9_byteAt sh g y2) (fun r1 => gb_bd (f_J9_min_7cf53 sh r1.1 1001 (((y1 * 10) + r1.2) - 48)) (fun r3 => f_X9_number_17 sh n r3.1 r3.2 (y2 + 1))))
noncomputable def f_X9_number (sh : List gb_Sh) (g : gb_G) : Option (gb_G × Int32) := if (g.1 43 4) = 2 then (f_X9_number_17 sh gb_N g 0 (g.1 43 2)) else (some (g, (-1)))
set_option maxRecDepth 100000 in
set_option maxHeartbeats 4000000 in
theorem t_X9_number_17 {Γ : gb_X} {sh : List gb_Sh} {out : gb_G × Int32} (hS : gb_S sh) : ∀ (n : Nat) (g : gb_G) (y1 : Int32) (y2 : Int32), f_X9_number_17 sh n g y1 y2 = some out → gb_J Γ M_X9_number 1 (gb_Ri sh out) 0 0 sh g 17 [(0, .ref 43), (1, .int y1), (2, .int y2)] [] := by
  intro n
  induction n with
  | zero => intro g y1 y2 h; cases h
  | succ n ih =>
    intro g y1 y2 h
    rw [f_X9_number_17] at h
    refine gb_iload_n d_X9_number_17 rfl ?_
    refine gb_aload_n d_X9_number_18 rfl ?_
    refine gb_geti f_X9_22 (hS 43 _ rfl) rfl d_X9_number_19 ?_
    refine gb_icmp_ge 51 d_X9_number_22 (by decide) (fun hc => ?_) (fun hc => ?_)
    · have h := gb_it hc h
      refine gb_iload_n d_X9_number_51 rfl ?_
      cases h
      exact gb_iret d_X9_number_52 rfl ⟨rfl, rfl, rfl⟩
    · have h := gb_if hc h
      refine gb_sipush 1001 d_X9_number_25 rfl ?_
      refine gb_iload_n d_X9_number_28 rfl ?_
      refine gb_bipush 10 d_X9_number_29 rfl ?_
      refine gb_imul d_X9_number_31 ?_
      refine gb_aload_n d_X9_number_32 rfl ?_
      refine gb_iload_n d_X9_number_33 rfl ?_
      obtain ⟨r1, e2, h⟩ := gb_bd_e h
      refine gb_cVi (As := [.int y2]) (rest := [.int (y1 * 10), .int 1001]) m_X9_31 (t_X9_byteAt (Γ := Γ) hS e2) (hS 43 _ rfl) rfl (Nat.le_of_ble_eq_true rfl) rfl rfl (Nat.le_of_ble_eq_true rfl) d_X9_number_34 ?_
      refine gb_iadd d_X9_number_37 ?_
      refine gb_bipush 48 d_X9_number_38 rfl ?_
      refine gb_isub d_X9_number_40 ?_
      obtain ⟨r3, e4, h⟩ := gb_bd_e h
      refine gb_cSi (As := [.int 1001, .int (((y1 * 10) + r1.2) - 48)]) (rest := []) m_X9_38 (t_J9_min_7cf53 (Γ := Γ) hS e4) (Nat.le_of_ble_eq_true rfl) rfl rfl (Nat.le_of_ble_eq_true rfl) d_X9_number_41 ?_
      refine gb_istore_n [(1, .int r3.2), (0, .ref 43), (2, .int y2)] d_X9_number_44 (Nat.le_of_ble_eq_true rfl) rfl ?_
      refine gb_iinc (y2 + 1) [(2, .int (y2 + 1)), (1, .int r3.2), (0, .ref 43)] d_X9_number_45 (Nat.le_of_ble_eq_true rfl) rfl rfl rfl ?_
      refine gb_goto 17 d_X9_number_48 (by decide) ?_
      refine gb_pick (lv' := [(0, .ref 43), (1, .int r3.2), (2, .int (y2 + 1))]) [2, 1, 0] rfl ?_
      exact ih _ r3.2 (y2 + 1) h
set_option maxRecDepth 100000 in
set_option maxHeartbeats 4000000 in
theorem t_X9_number {Γ : gb_X} {sh : List gb_Sh} {out : gb_G × Int32} (hS : gb_S sh) {g : gb_G} (h : f_X9_number sh g = some out) : gb_C Γ M_X9_number 1 0 0 sh g [.ref 43] (gb_Ri sh out) := by
  refine gb_C.of rfl (Nat.le_of_ble_eq_true rfl) ?_
  refine gb_pick (lv' := [(0, .ref 43)]) [0] rfl ?_
  unfold f_X9_number at h
  refine gb_aload_n d_X9_number_0 rfl ?_
  refine gb_geti f_X9_25 (hS 43 _ rfl) rfl d_X9_number_1 ?_
  refine gb_iconst 2 d_X9_number_4 rfl ?_
  refine gb_icmp_eq 10 d_X9_number_5 (by decide) (fun hc => ?_) (fun hc => ?_)
  · have h := gb_it hc h
    refine gb_iconst 0 d_X9_number_10 rfl ?_
    refine gb_istore_n [(1, .int 0), (0, .ref 43)] d_X9_number_11 (Nat.le_of_ble_eq_true rfl) rfl ?_
    refine gb_aload_n d_X9_number_12 rfl ?_
    refine gb_geti f_X9_19 (hS 43 _ rfl) rfl d_X9_number_13 ?_
    refine gb_istore_n [(2, .int (g.1 43 2)), (1, .int 0), (0, .ref 43)] d_X9_number_16 (Nat.le_of_ble_eq_true rfl) rfl ?_
    refine gb_pick (lv' := [(0, .ref 43), (1, .int 0), (2, .int (g.1 43 2))]) [2, 1, 0] rfl ?_
    exact t_X9_number_17 hS  gb_N _ 0 (g.1 43 2) h
  · have h := gb_if hc h
    refine gb_iconst (-1) d_X9_number_8 rfl ?_
    cases h
    exact gb_iret d_X9_number_9 rfl ⟨rfl, rfl, rfl⟩
-- X8_readNumber
noncomputable def f_X8_readNumber (sh : List gb_Sh) (g : gb_G) : Option (gb_G × Int32) := gb_bd (f_X9_number sh g) (fun r1 => if r1.2 ≤ 1000 then (gb_bd (f_X9_step sh r1.1) (fun r3 => gb_bd (f_X7_emit sh r3 46 0 r1.2) (fun r5 => some (r5.1, 1)))) else (some (r1.1, 0)))
set_option maxRecDepth 100000 in
set_option maxHeartbeats 4000000 in
theorem t_X8_readNumber {Γ : gb_X} {sh : List gb_Sh} {out : gb_G × Int32} (hS : gb_S sh) {g : gb_G} (h : f_X8_readNumber sh g = some out) : gb_C Γ M_X8_readNumber 2 0 0 sh g [.ref 45] (gb_Ri sh out) := by
  refine gb_C.of rfl (Nat.le_of_ble_eq_true rfl) ?_
  refine gb_pick (lv' := [(0, .ref 45)]) [0] rfl ?_
  unfold f_X8_readNumber at h
  refine gb_aload_n d_X8_readNumber_0 rfl ?_
  refine gb_getr (r := 43) f_X8_26 (hS 45 _ rfl) rfl d_X8_readNumber_1 ?_
  obtain ⟨r1, e2, h⟩ := gb_bd_e h
  refine gb_cVi (As := []) (rest := []) m_X8_98 (t_X9_number (Γ := Γ) hS e2) (hS 43 _ rfl) rfl (Nat.le_of_ble_eq_true rfl) rfl rfl (Nat.le_of_ble_eq_true rfl) d_X8_readNumber_4 ?_
  refine gb_istore_n [(1, .int r1.2), (0, .ref 45)] d_X8_readNumber_7 (Nat.le_of_ble_eq_true rfl) rfl ?_
  refine gb_iload_n d_X8_readNumber_8 rfl ?_
  refine gb_sipush 1000 d_X8_readNumber_9 rfl ?_
  refine gb_icmp_le 17 d_X8_readNumber_12 (by decide) (fun hc => ?_) (fun hc => ?_)
  · have h := gb_it hc h
    refine gb_aload_n d_X8_readNumber_17 rfl ?_
    refine gb_getr (r := 43) f_X8_26 (hS 45 _ rfl) rfl d_X8_readNumber_18 ?_
    obtain ⟨r3, e4, h⟩ := gb_bd_e h
    refine gb_cVv (As := []) (rest := []) m_X8_63 (t_X9_step (Γ := Γ) hS e4) (hS 43 _ rfl) rfl (Nat.le_of_ble_eq_true rfl) rfl rfl (Nat.le_of_ble_eq_true rfl) d_X8_readNumber_21 ?_
    refine gb_aload_n d_X8_readNumber_24 rfl ?_
    refine gb_getr (r := 46) f_X8_12 (hS 45 _ rfl) rfl d_X8_readNumber_25 ?_
    refine gb_iconst 0 d_X8_readNumber_28 rfl ?_
    refine gb_iload_n d_X8_readNumber_29 rfl ?_
    obtain ⟨r5, e6, h⟩ := gb_bd_e h
    refine gb_cVi (As := [.int 0, .int r1.2]) (rest := []) m_X8_114 (t_X7_emit (Γ := Γ) hS (ok_X7_46 hS) e6) (ok_X7_46 hS).1 rfl (Nat.le_of_ble_eq_true rfl) rfl rfl (Nat.le_of_ble_eq_true rfl) d_X8_readNumber_30 ?_
    refine gb_pop d_X8_readNumber_33 rfl ?_
    refine gb_iconst 1 d_X8_readNumber_34 rfl ?_
    cases h
    exact gb_zret d_X8_readNumber_35 rfl rfl ⟨rfl, rfl, rfl⟩
  · have h := gb_if hc h
    refine gb_iconst 0 d_X8_readNumber_15 rfl ?_
    cases h
    exact gb_zret d_X8_readNumber_16 rfl rfl ⟨rfl, rfl, rfl⟩
-- X9_isSign
noncomputable def f_X9_isSign (sh : List gb_Sh) (g : gb_G) (x1 : Int32) : Option (gb_G × Int32) := gb_bd (f_X9_byteAt sh g (g.1 43 2)) (fun r1 => if r1.2 = x1 then (some (r1.1, 1)) else (some (r1.1, 0)))
set_option maxRecDepth 100000 in
set_option maxHeartbeats 4000000 in
theorem t_X9_isSign {Γ : gb_X} {sh : List gb_Sh} {x1 : Int32} {out : gb_G × Int32} (hS : gb_S sh) {g : gb_G} (h : f_X9_isSign sh g x1 = some out) : gb_C Γ M_X9_isSign 1 0 0 sh g [.ref 43, .int x1] (gb_Ri sh out) := by
  refine gb_C.of rfl (Nat.le_of_ble_eq_true rfl) ?_
  refine gb_pick (lv' := [(0, .ref 43), (1, .int x1)]) [0, 1] rfl ?_
  unfold f_X9_isSign at h
  refine gb_aload_n d_X9_isSign_0 rfl ?_
  refine gb_aload_n d_X9_isSign_1 rfl ?_
  refine gb_geti f_X9_19 (hS 43 _ rfl) rfl d_X9_isSign_2 ?_
  obtain ⟨r1, e2, h⟩ := gb_bd_e h
  refine gb_cVi (As := [.int (g.1 43 2)]) (rest := []) m_X9_31 (t_X9_byteAt (Γ := Γ) hS e2) (hS 43 _ rfl) rfl (Nat.le_of_ble_eq_true rfl) rfl rfl (Nat.le_of_ble_eq_true rfl) d_X9_isSign_5 ?_
  refine gb_iload_n d_X9_isSign_8 rfl ?_
  refine gb_icmp_ne 16 d_X9_isSign_9 (by decide) (fun hc => ?_) (fun hc => ?_)
  · have h := gb_if hc h
    refine gb_iconst 0 d_X9_isSign_16 rfl ?_
    cases h
    exact gb_zret d_X9_isSign_17 rfl rfl ⟨rfl, rfl, rfl⟩
  · have h := gb_it hc h
    refine gb_iconst 1 d_X9_isSign_12 rfl ?_
    refine gb_goto 17 d_X9_isSign_13 (by decide) ?_
    cases h
    exact gb_zret d_X9_isSign_17 rfl rfl ⟨rfl, rfl, rfl⟩
-- X8_readSign
noncomputable def f_X8_readSign (sh : List gb_Sh) (g : gb_G) (x1 : Int32) : Option (gb_G × Int32) := gb_bd (f_X9_isSign sh g x1) (fun r1 => if r1.2 = 0 then (some (r1.1, 0)) else (gb_bd (f_X9_step sh r1.1) (fun r3 => some (r3, 1))))
set_option maxRecDepth 100000 in
set_option maxHeartbeats 4000000 in
theorem t_X8_readSign {Γ : gb_X} {sh : List gb_Sh} {x1 : Int32} {out : gb_G × Int32} (hS : gb_S sh) {g : gb_G} (h : f_X8_readSign sh g x1 = some out) : gb_C Γ M_X8_readSign 2 0 0 sh g [.ref 45, .int x1] (gb_Ri sh out) := by
  refine gb_C.of rfl (Nat.le_of_ble_eq_true rfl) ?_
  refine gb_pick (lv' := [(0, .ref 45), (1, .int x1)]) [0, 1] rfl ?_
  unfold f_X8_readSign at h
  refine gb_aload_n d_X8_readSign_0 rfl ?_
  refine gb_getr (r := 43) f_X8_26 (hS 45 _ rfl) rfl d_X8_readSign_1 ?_
  refine gb_iload_n d_X8_readSign_4 rfl ?_
  obtain ⟨r1, e2, h⟩ := gb_bd_e h
  refine gb_cVi (As := [.int x1]) (rest := []) m_X8_95 (t_X9_isSign (Γ := Γ) hS e2) (hS 43 _ rfl) rfl (Nat.le_of_ble_eq_true rfl) rfl rfl (Nat.le_of_ble_eq_true rfl) d_X8_readSign_5 ?_
  refine gb_if_ne 13 d_X8_readSign_8 (by decide) (fun hc => ?_) (fun hc => ?_)
  · have h := gb_if hc h
    refine gb_aload_n d_X8_readSign_13 rfl ?_
    refine gb_getr (r := 43) f_X8_26 (hS 45 _ rfl) rfl d_X8_readSign_14 ?_
    obtain ⟨r3, e4, h⟩ := gb_bd_e h
    refine gb_cVv (As := []) (rest := []) m_X8_63 (t_X9_step (Γ := Γ) hS e4) (hS 43 _ rfl) rfl (Nat.le_of_ble_eq_true rfl) rfl rfl (Nat.le_of_ble_eq_true rfl) d_X8_readSign_17 ?_
    refine gb_iconst 1 d_X8_readSign_20 rfl ?_
    cases h
    exact gb_zret d_X8_readSign_21 rfl rfl ⟨rfl, rfl, rfl⟩
  · have h := gb_it hc h
    refine gb_iconst 0 d_X8_readSign_11 rfl ?_
    cases h
    exact gb_zret d_X8_readSign_12 rfl rfl ⟨rfl, rfl, rfl⟩
-- X9_isNumber
noncomputable def f_X9_isNumber (sh : List gb_Sh) (g : gb_G) : Option (gb_G × Int32) := if (g.1 43 4) = 2 then (some (g, 1)) else (some (g, 0))
set_option maxRecDepth 100000 in
set_option maxHeartbeats 4000000 in
theorem t_X9_isNumber {Γ : gb_X} {sh : List gb_Sh} {out : gb_G × Int32} (hS : gb_S sh) {g : gb_G} (h : f_X9_isNumber sh g = some out) : gb_C Γ M_X9_isNumber 0 0 0 sh g [.ref 43] (gb_Ri sh out) := by
  refine gb_C.of rfl (Nat.le_of_ble_eq_true rfl) ?_
  refine gb_pick (lv' := [(0, .ref 43)]) [0] rfl ?_
  unfold f_X9_isNumber at h
  refine gb_aload_n d_X9_isNumber_0 rfl ?_
  refine gb_geti f_X9_25 (hS 43 _ rfl) rfl d_X9_isNumber_1 ?_
  refine gb_iconst 2 d_X9_isNumber_4 rfl ?_
  refine gb_icmp_ne 12 d_X9_isNumber_5 (by decide) (fun hc => ?_) (fun hc => ?_)
  · have h := gb_if hc h
    refine gb_iconst 0 d_X9_isNumber_12 rfl ?_
    cases h
    exact gb_zret d_X9_isNumber_13 rfl rfl ⟨rfl, rfl, rfl⟩
  · have h := gb_it hc h
    refine gb_iconst 1 d_X9_isNumber_8 rfl ?_
    refine gb_goto 13 d_X9_isNumber_9 (by decide) ?_
    cases h
    exact gb_zret d_X9_isNumber_13 rfl rfl ⟨rfl, rfl, rfl⟩
-- J1_canEncode_9a6ad
noncomputable def f_J1_canEncode_9a6ad (sh : List gb_Sh) (g : gb_G) (x1 : Int32) : Option (gb_G × Int32) := if x1 < 0 then (some (g, 0)) else (if 255 < x1 then (some (g, 0)) else (some (g, 1)))
set_option maxRecDepth 100000 in
set_option maxHeartbeats 4000000 in
theorem t_J1_canEncode_9a6ad {Γ : gb_X} {sh : List gb_Sh} {x1 : Int32} {out : gb_G × Int32} (hS : gb_S sh) {g : gb_G} (h : f_J1_canEncode_9a6ad sh g x1 = some out) : gb_C Γ M_J1_canEncode_9a6ad 0 0 0 sh g [.int x1] (gb_Ri sh out) := by
  refine gb_C.ofF (by decide +kernel) (Nat.le_of_ble_eq_true rfl) ?_
  refine gb_pick (lv' := [(0, .int x1)]) [0] rfl ?_
  unfold f_J1_canEncode_9a6ad at h
  refine gb_iload_n d_J1_canEncode_9a6ad_0 rfl ?_
  refine gb_if_lt 15 d_J1_canEncode_9a6ad_1 (by decide) (fun hc => ?_) (fun hc => ?_)
  · have h := gb_it hc h
    refine gb_iconst 0 d_J1_canEncode_9a6ad_15 rfl ?_
    cases h
    exact gb_zret d_J1_canEncode_9a6ad_16 rfl rfl ⟨rfl, rfl, rfl⟩
  · have h := gb_if hc h
    refine gb_iload_n d_J1_canEncode_9a6ad_4 rfl ?_
    refine gb_sipush 255 d_J1_canEncode_9a6ad_5 rfl ?_
    refine gb_icmp_gt 15 d_J1_canEncode_9a6ad_8 (by decide) (fun hc => ?_) (fun hc => ?_)
    · have h := gb_it hc h
      refine gb_iconst 0 d_J1_canEncode_9a6ad_15 rfl ?_
      cases h
      exact gb_zret d_J1_canEncode_9a6ad_16 rfl rfl ⟨rfl, rfl, rfl⟩
    · have h := gb_if hc h
      refine gb_iconst 1 d_J1_canEncode_9a6ad_11 rfl ?_
      refine gb_goto 16 d_J1_canEncode_9a6ad_12 (by decide) ?_
      cases h
      exact gb_zret d_J1_canEncode_9a6ad_16 rfl rfl ⟨rfl, rfl, rfl⟩
-- J11_isValidCodePoint_9a6ad
noncomputable def f_J11_isValidCodePoint_9a6ad (sh : List gb_Sh) (g : gb_G) (x1 : Int32) : Option (gb_G × Int32) := if 17 ≤ ((x1.toUInt32 >>> ((16 : Int32).toUInt32 &&& Int32.toUInt32 31)).toInt32) then (some (g, 0)) else (some (g, 1))
set_option maxRecDepth 100000 in
set_option maxHeartbeats 4000000 in
theorem t_J11_isValidCodePoint_9a6ad {Γ : gb_X} {sh : List gb_Sh} {x1 : Int32} {out : gb_G × Int32} (hS : gb_S sh) {g : gb_G} (h : f_J11_isValidCodePoint_9a6ad sh g x1 = some out) : gb_C Γ M_J11_isValidCodePoint_9a6ad 0 0 0 sh g [.int x1] (gb_Ri sh out) := by
  refine gb_C.ofF (by decide +kernel) (Nat.le_of_ble_eq_true rfl) ?_
  refine gb_pick (lv' := [(0, .int x1)]) [0] rfl ?_
  unfold f_J11_isValidCodePoint_9a6ad at h
  refine gb_iload_n d_J11_isValidCodePoint_9a6ad_0 rfl ?_
  refine gb_bipush 16 d_J11_isValidCodePoint_9a6ad_1 rfl ?_
  refine gb_iushr d_J11_isValidCodePoint_9a6ad_3 ?_
  refine gb_istore_n [(1, .int ((x1.toUInt32 >>> ((16 : Int32).toUInt32 &&& Int32.toUInt32 31)).toInt32)), (0, .int x1)] d_J11_isValidCodePoint_9a6ad_4 (Nat.le_of_ble_eq_true rfl) rfl ?_
  refine gb_iload_n d_J11_isValidCodePoint_9a6ad_5 rfl ?_
  refine gb_bipush 17 d_J11_isValidCodePoint_9a6ad_6 rfl ?_
  refine gb_icmp_ge 15 d_J11_isValidCodePoint_9a6ad_8 (by decide) (fun hc => ?_) (fun hc => ?_)
  · have h := gb_it hc h
    refine gb_iconst 0 d_J11_isValidCodePoint_9a6ad_15 rfl ?_
    cases h
    exact gb_zret d_J11_isValidCodePoint_9a6ad_16 rfl rfl ⟨rfl, rfl, rfl⟩
  · have h := gb_if hc h
    refine gb_iconst 1 d_J11_isValidCodePoint_9a6ad_11 rfl ?_
    refine gb_goto 16 d_J11_isValidCodePoint_9a6ad_12 (by decide) ?_
    cases h
    exact gb_zret d_J11_isValidCodePoint_9a6ad_16 rfl rfl ⟨rfl, rfl, rfl⟩
-- X9_ended
noncomputable def f_X9_ended (sh : List gb_Sh) (g : gb_G) : Option (gb_G × Int32) := if (g.1 43 2) < (g.1 43 1) then (some (g, 0)) else (some (g, 1))
set_option maxRecDepth 100000 in
set_option maxHeartbeats 4000000 in
theorem t_X9_ended {Γ : gb_X} {sh : List gb_Sh} {out : gb_G × Int32} (hS : gb_S sh) {g : gb_G} (h : f_X9_ended sh g = some out) : gb_C Γ M_X9_ended 0 0 0 sh g [.ref 43] (gb_Ri sh out) := by
  refine gb_C.of rfl (Nat.le_of_ble_eq_true rfl) ?_
  refine gb_pick (lv' := [(0, .ref 43)]) [0] rfl ?_
  unfold f_X9_ended at h
  refine gb_aload_n d_X9_ended_0 rfl ?_
  refine gb_geti f_X9_19 (hS 43 _ rfl) rfl d_X9_ended_1 ?_
  refine gb_aload_n d_X9_ended_4 rfl ?_
  refine gb_geti f_X9_15 (hS 43 _ rfl) rfl d_X9_ended_5 ?_
  refine gb_icmp_lt 15 d_X9_ended_8 (by decide) (fun hc => ?_) (fun hc => ?_)
  · have h := gb_it hc h
    refine gb_iconst 0 d_X9_ended_15 rfl ?_
    cases h
    exact gb_zret d_X9_ended_16 rfl rfl ⟨rfl, rfl, rfl⟩
  · have h := gb_if hc h
    refine gb_iconst 1 d_X9_ended_11 rfl ?_
    refine gb_goto 16 d_X9_ended_12 (by decide) ?_
    cases h
    exact gb_zret d_X9_ended_16 rfl rfl ⟨rfl, rfl, rfl⟩
-- X8_readTimes
noncomputable def f_X8_readTimes (sh : List gb_Sh) (g : gb_G) : Option (gb_G × Int32) := gb_bd (f_X9_number sh g) (fun r1 => gb_bd (f_X10_within sh r1.1 r1.2 1 20) (fun r3 => if r3.2 = 0 then (some (r3.1, 0)) else (gb_bd (f_X10_within sh r3.1 (r3.1.1 46 3) 0 11) (fun r5 => if r5.2 = 0 then (some (r5.1, 0)) else (gb_ck (r5.1.1 46 3) (gb_ln sh (46 + 4)) (gb_let (gb_pi r5.1 (46 + 4) ((r5.1.1 46 3).toNatClampNeg) r1.2) (fun g8 => gb_bd (f_X9_step sh g8) (fun r9 => some (r9, 1)))))))))
set_option maxRecDepth 100000 in
set_option maxHeartbeats 4000000 in
theorem t_X8_readTimes {Γ : gb_X} {sh : List gb_Sh} {out : gb_G × Int32} (hS : gb_S sh) {g : gb_G} (h : f_X8_readTimes sh g = some out) : gb_C Γ M_X8_readTimes 2 0 0 sh g [.ref 45] (gb_Ri sh out) := by
  refine gb_C.of rfl (Nat.le_of_ble_eq_true rfl) ?_
  refine gb_pick (lv' := [(0, .ref 45)]) [0] rfl ?_
  unfold f_X8_readTimes at h
  refine gb_aload_n d_X8_readTimes_0 rfl ?_
  refine gb_getr (r := 43) f_X8_26 (hS 45 _ rfl) rfl d_X8_readTimes_1 ?_
  obtain ⟨r1, e2, h⟩ := gb_bd_e h
  refine gb_cVi (As := []) (rest := []) m_X8_98 (t_X9_number (Γ := Γ) hS e2) (hS 43 _ rfl) rfl (Nat.le_of_ble_eq_true rfl) rfl rfl (Nat.le_of_ble_eq_true rfl) d_X8_readTimes_4 ?_
  refine gb_istore_n [(1, .int r1.2), (0, .ref 45)] d_X8_readTimes_7 (Nat.le_of_ble_eq_true rfl) rfl ?_
  refine gb_iload_n d_X8_readTimes_8 rfl ?_
  refine gb_iconst 1 d_X8_readTimes_9 rfl ?_
  refine gb_bipush 20 d_X8_readTimes_10 rfl ?_
  obtain ⟨r3, e4, h⟩ := gb_bd_e h
  refine gb_cSNi (As := [.int r1.2, .int 1, .int 20]) (rest := []) m_X8_102 (t_X10_within (Γ := Γ) hS e4) (Nat.le_of_ble_eq_true rfl) rfl rfl (Nat.le_of_ble_eq_true rfl) d_X8_readTimes_12 ?_
  refine gb_if_eq 34 d_X8_readTimes_15 (by decide) (fun hc => ?_) (fun hc => ?_)
  · have h := gb_it hc h
    refine gb_iconst 0 d_X8_readTimes_34 rfl ?_
    cases h
    exact gb_zret d_X8_readTimes_35 rfl rfl ⟨rfl, rfl, rfl⟩
  · have h := gb_if hc h
    refine gb_aload_n d_X8_readTimes_18 rfl ?_
    refine gb_getr (r := 46) f_X8_12 (hS 45 _ rfl) rfl d_X8_readTimes_19 ?_
    refine gb_geti f_X8_92 (ok_X7_46 hS).1 rfl d_X8_readTimes_22 ?_
    refine gb_iconst 0 d_X8_readTimes_25 rfl ?_
    refine gb_bipush 11 d_X8_readTimes_26 rfl ?_
    obtain ⟨r5, e6, h⟩ := gb_bd_e h
    refine gb_cSNi (As := [.int (r3.1.1 46 3), .int 0, .int 11]) (rest := []) m_X8_102 (t_X10_within (Γ := Γ) hS e6) (Nat.le_of_ble_eq_true rfl) rfl rfl (Nat.le_of_ble_eq_true rfl) d_X8_readTimes_28 ?_
    refine gb_if_ne 36 d_X8_readTimes_31 (by decide) (fun hc => ?_) (fun hc => ?_)
    · have h := gb_if hc h
      refine gb_aload_n d_X8_readTimes_36 rfl ?_
      refine gb_getr (r := 46) f_X8_12 (hS 45 _ rfl) rfl d_X8_readTimes_37 ?_
      refine gb_getr (r := (46 + 4)) f_X8_106 (ok_X7_46 hS).1 rfl d_X8_readTimes_40 ?_
      refine gb_aload_n d_X8_readTimes_43 rfl ?_
      refine gb_getr (r := 46) f_X8_12 (hS 45 _ rfl) rfl d_X8_readTimes_44 ?_
      refine gb_geti f_X8_92 (ok_X7_46 hS).1 rfl d_X8_readTimes_47 ?_
      refine gb_iload_n d_X8_readTimes_50 rfl ?_
      obtain ⟨hi7, h⟩ := gb_ck_e h
      refine gb_iast_ ((r5.1.1 46 3).toNatClampNeg) rfl (ok_X7_46 hS).2.2.2.2.1 hi7 d_X8_readTimes_51 ?_
      have h := gb_let_e h
      generalize gb_pi r5.1 (46 + 4) ((r5.1.1 46 3).toNatClampNeg) r1.2 = g8 at h ⊢
      refine gb_aload_n d_X8_readTimes_52 rfl ?_
      refine gb_getr (r := 43) f_X8_26 (hS 45 _ rfl) rfl d_X8_readTimes_53 ?_
      obtain ⟨r9, e10, h⟩ := gb_bd_e h
      refine gb_cVv (As := []) (rest := []) m_X8_63 (t_X9_step (Γ := Γ) hS e10) (hS 43 _ rfl) rfl (Nat.le_of_ble_eq_true rfl) rfl rfl (Nat.le_of_ble_eq_true rfl) d_X8_readTimes_56 ?_
      refine gb_iconst 1 d_X8_readTimes_59 rfl ?_
      cases h
      exact gb_zret d_X8_readTimes_60 rfl rfl ⟨rfl, rfl, rfl⟩
    · have h := gb_it hc h
      refine gb_iconst 0 d_X8_readTimes_34 rfl ?_
      cases h
      exact gb_zret d_X8_readTimes_35 rfl rfl ⟨rfl, rfl, rfl⟩
-- X9_rewind
noncomputable def f_X9_rewind (sh : List gb_Sh) (g : gb_G) : Option (gb_G) := gb_let (gb_pi g 43 3 0) (fun g1 => gb_bd (f_X9_step sh g1) (fun r2 => some r2))
set_option maxRecDepth 100000 in
set_option maxHeartbeats 4000000 in
theorem t_X9_rewind {Γ : gb_X} {sh : List gb_Sh} {out : gb_G} (hS : gb_S sh) {g : gb_G} (h : f_X9_rewind sh g = some out) : gb_C Γ M_X9_rewind 2 0 0 sh g [.ref 43] (gb_Rv sh out) := by
  refine gb_C.of rfl (Nat.le_of_ble_eq_true rfl) ?_
  refine gb_pick (lv' := [(0, .ref 43)]) [0] rfl ?_
  unfold f_X9_rewind at h
  refine gb_aload_n d_X9_rewind_0 rfl ?_
  refine gb_iconst 0 d_X9_rewind_1 rfl ?_
  refine gb_puti f_X9_22 (fun h => nomatch h) (hS 43 _ rfl) rfl rfl rfl d_X9_rewind_2 ?_
  have h := gb_let_e h
  generalize gb_pi g 43 3 0 = g1 at h ⊢
  refine gb_aload_n d_X9_rewind_5 rfl ?_
  obtain ⟨r2, e3, h⟩ := gb_bd_e h
  refine gb_cVv (As := []) (rest := []) m_X9_28 (t_X9_step (Γ := Γ) hS e3) (hS 43 _ rfl) rfl (Nat.le_of_ble_eq_true rfl) rfl rfl (Nat.le_of_ble_eq_true rfl) d_X9_rewind_6 ?_
  cases h
  exact gb_vret d_X9_rewind_9 rfl ⟨rfl, rfl, rfl⟩
-- X9_append
noncomputable def f_X9_append_3 (sh : List gb_Sh) : Nat → gb_G → Int32 → Int32 → Option (gb_G)
  | 0, _, _, _ => none
  | n + 1, g, y1, y2 => if y2 < 0 then (some g) else (if 400 ≤ (g.1 43 1) then (some g) else (gb_ck (g.1 43 1) 400 (gb_let (gb_pi g 44 ((g.1 43 1).toNatClampNeg) (((y1.toUInt32 >>> (y2.toUInt32 &&& Int32.toUInt32 31)).toInt32) &&& 255)) (fun g2 => gb_let (gb_pi g2 43 1 ((g2.1 43 1) + 1)) (fun g3 => f_X9_append_3 sh n g3 y1 (y2 + (-8)))))))
noncomputable def f_X9_append (sh : List gb_Sh) (g : gb_G) (x1 : Int32) : Option (gb_G) := f_X9_append_3 sh gb_N g x1 24
set_option maxRecDepth 100000 in
set_option maxHeartbeats 4000000 in
theorem t_X9_append_3 {Γ : gb_X} {sh : List gb_Sh} {out : gb_G} (hS : gb_S sh) : ∀ (n : Nat) (g : gb_G) (y1 : Int32) (y2 : Int32), f_X9_append_3 sh n g y1 y2 = some out → gb_J Γ M_X9_append 0 (gb_Rv sh out) 0 0 sh g 3 [(0, .ref 43), (1, .int y1), (2, .int y2)] [] := by
  intro n
  induction n with
  | zero => intro g y1 y2 h; cases h
  | succ n ih =>
    intro g y1 y2 h
    rw [f_X9_append_3] at h
    refine gb_iload_n d_X9_append_3 rfl ?_
    refine gb_if_lt 49 d_X9_append_4 (by decide) (fun hc => ?_) (fun hc => ?_)
    · have h := gb_it hc h
      cases h
      exact gb_vret d_X9_append_49 rfl ⟨rfl, rfl, rfl⟩
    · have h := gb_if hc h
      refine gb_aload_n d_X9_append_7 rfl ?_
      refine gb_geti f_X9_15 (hS 43 _ rfl) rfl d_X9_append_8 ?_
      refine gb_sipush 400 d_X9_append_11 rfl ?_
      refine gb_icmp_ge 49 d_X9_append_14 (by decide) (fun hc => ?_) (fun hc => ?_)
      · have h := gb_it hc h
        cases h
        exact gb_vret d_X9_append_49 rfl ⟨rfl, rfl, rfl⟩
      · have h := gb_if hc h
        refine gb_aload_n d_X9_append_17 rfl ?_
        refine gb_getr (r := 44) f_X9_9 (hS 43 _ rfl) rfl d_X9_append_18 ?_
        refine gb_aload_n d_X9_append_21 rfl ?_
        refine gb_geti f_X9_15 (hS 43 _ rfl) rfl d_X9_append_22 ?_
        refine gb_iload_n d_X9_append_25 rfl ?_
        refine gb_iload_n d_X9_append_26 rfl ?_
        refine gb_iushr d_X9_append_27 ?_
        refine gb_sipush 255 d_X9_append_28 rfl ?_
        refine gb_iand d_X9_append_31 ?_
        obtain ⟨hi1, h⟩ := gb_ck_e h
        refine gb_iast_ ((g.1 43 1).toNatClampNeg) rfl (hS 44 _ rfl) hi1 d_X9_append_32 ?_
        have h := gb_let_e h
        generalize gb_pi g 44 ((g.1 43 1).toNatClampNeg) (((y1.toUInt32 >>> (y2.toUInt32 &&& Int32.toUInt32 31)).toInt32) &&& 255) = g2 at h ⊢
        refine gb_aload_n d_X9_append_33 rfl ?_
        refine gb_dup d_X9_append_34 rfl ?_
        refine gb_geti f_X9_15 (hS 43 _ rfl) rfl d_X9_append_35 ?_
        refine gb_iconst 1 d_X9_append_38 rfl ?_
        refine gb_iadd d_X9_append_39 ?_
        refine gb_puti f_X9_15 (fun h => nomatch h) (hS 43 _ rfl) rfl rfl rfl d_X9_append_40 ?_
        have h := gb_let_e h
        generalize gb_pi g2 43 1 ((g2.1 43 1) + 1) = g3 at h ⊢
        refine gb_iinc (y2 + (-8)) [(2, .int (y2 + (-8))), (0, .ref 43), (1, .int y1)] d_X9_append_43 (Nat.le_of_ble_eq_true rfl) rfl rfl rfl ?_
        refine gb_goto 3 d_X9_append_46 (by decide) ?_
        refine gb_pick (lv' := [(0, .ref 43), (1, .int y1), (2, .int (y2 + (-8)))]) [1, 2, 0] rfl ?_
        exact ih _ y1 (y2 + (-8)) h
set_option maxRecDepth 100000 in
set_option maxHeartbeats 4000000 in
theorem t_X9_append {Γ : gb_X} {sh : List gb_Sh} {x1 : Int32} {out : gb_G} (hS : gb_S sh) {g : gb_G} (h : f_X9_append sh g x1 = some out) : gb_C Γ M_X9_append 0 0 0 sh g [.ref 43, .int x1] (gb_Rv sh out) := by
  refine gb_C.of rfl (Nat.le_of_ble_eq_true rfl) ?_
  refine gb_pick (lv' := [(0, .ref 43), (1, .int x1)]) [0, 1] rfl ?_
  unfold f_X9_append at h
  refine gb_bipush 24 d_X9_append_0 rfl ?_
  refine gb_istore_n [(2, .int 24), (0, .ref 43), (1, .int x1)] d_X9_append_2 (Nat.le_of_ble_eq_true rfl) rfl ?_
  refine gb_pick (lv' := [(0, .ref 43), (1, .int x1), (2, .int 24)]) [1, 2, 0] rfl ?_
  exact t_X9_append_3 hS  gb_N _ x1 24 h
-- X10_canBeGood
noncomputable def f_X10_canBeGood (sh : List gb_Sh) (g : gb_G) (x1 : Int32) (x2 : Int32) (x3 : Int32) (x4 : Int32) : Option (gb_G × Int32) := gb_bd (f_X10_within sh g x1 1 12) (fun r1 => if r1.2 = 0 then (some (r1.1, 0)) else (gb_bd (f_X10_within sh r1.1 x2 1 12) (fun r3 => if r3.2 = 0 then (some (r3.1, 0)) else (gb_bd (f_X10_within sh r3.1 x3 0 99) (fun r5 => if r5.2 = 0 then (some (r5.1, 0)) else (gb_bd (f_X10_within sh r5.1 x4 0 9) (fun r7 => if r7.2 = 0 then (some (r7.1, 0)) else (some (r7.1, 1)))))))))
set_option maxRecDepth 100000 in
set_option maxHeartbeats 4000000 in
theorem t_X10_canBeGood {Γ : gb_X} {sh : List gb_Sh} {x1 : Int32} {x2 : Int32} {x3 : Int32} {x4 : Int32} {out : gb_G × Int32} (hS : gb_S sh) {g : gb_G} (h : f_X10_canBeGood sh g x1 x2 x3 x4 = some out) : gb_C Γ M_X10_canBeGood 1 0 0 sh g [.int x1, .int x2, .int x3, .int x4] (gb_Ri sh out) := by
  refine gb_C.of rfl (Nat.le_of_ble_eq_true rfl) ?_
  refine gb_pick (lv' := [(0, .int x1), (1, .int x2), (2, .int x3), (3, .int x4)]) [0, 1, 2, 3] rfl ?_
  unfold f_X10_canBeGood at h
  refine gb_iload_n d_X10_canBeGood_0 rfl ?_
  refine gb_iconst 1 d_X10_canBeGood_1 rfl ?_
  refine gb_bipush 12 d_X10_canBeGood_2 rfl ?_
  obtain ⟨r1, e2, h⟩ := gb_bd_e h
  refine gb_cSi (As := [.int x1, .int 1, .int 12]) (rest := []) m_X10_115 (t_X10_within (Γ := Γ) hS e2) (Nat.le_of_ble_eq_true rfl) rfl rfl (Nat.le_of_ble_eq_true rfl) d_X10_canBeGood_4 ?_
  refine gb_if_eq 44 d_X10_canBeGood_7 (by decide) (fun hc => ?_) (fun hc => ?_)
  · have h := gb_it hc h
    refine gb_iconst 0 d_X10_canBeGood_44 rfl ?_
    cases h
    exact gb_zret d_X10_canBeGood_45 rfl rfl ⟨rfl, rfl, rfl⟩
  · have h := gb_if hc h
    refine gb_iload_n d_X10_canBeGood_10 rfl ?_
    refine gb_iconst 1 d_X10_canBeGood_11 rfl ?_
    refine gb_bipush 12 d_X10_canBeGood_12 rfl ?_
    obtain ⟨r3, e4, h⟩ := gb_bd_e h
    refine gb_cSi (As := [.int x2, .int 1, .int 12]) (rest := []) m_X10_115 (t_X10_within (Γ := Γ) hS e4) (Nat.le_of_ble_eq_true rfl) rfl rfl (Nat.le_of_ble_eq_true rfl) d_X10_canBeGood_14 ?_
    refine gb_if_eq 44 d_X10_canBeGood_17 (by decide) (fun hc => ?_) (fun hc => ?_)
    · have h := gb_it hc h
      refine gb_iconst 0 d_X10_canBeGood_44 rfl ?_
      cases h
      exact gb_zret d_X10_canBeGood_45 rfl rfl ⟨rfl, rfl, rfl⟩
    · have h := gb_if hc h
      refine gb_iload_n d_X10_canBeGood_20 rfl ?_
      refine gb_iconst 0 d_X10_canBeGood_21 rfl ?_
      refine gb_bipush 99 d_X10_canBeGood_22 rfl ?_
      obtain ⟨r5, e6, h⟩ := gb_bd_e h
      refine gb_cSi (As := [.int x3, .int 0, .int 99]) (rest := []) m_X10_115 (t_X10_within (Γ := Γ) hS e6) (Nat.le_of_ble_eq_true rfl) rfl rfl (Nat.le_of_ble_eq_true rfl) d_X10_canBeGood_24 ?_
      refine gb_if_eq 44 d_X10_canBeGood_27 (by decide) (fun hc => ?_) (fun hc => ?_)
      · have h := gb_it hc h
        refine gb_iconst 0 d_X10_canBeGood_44 rfl ?_
        cases h
        exact gb_zret d_X10_canBeGood_45 rfl rfl ⟨rfl, rfl, rfl⟩
      · have h := gb_if hc h
        refine gb_iload_n d_X10_canBeGood_30 rfl ?_
        refine gb_iconst 0 d_X10_canBeGood_31 rfl ?_
        refine gb_bipush 9 d_X10_canBeGood_32 rfl ?_
        obtain ⟨r7, e8, h⟩ := gb_bd_e h
        refine gb_cSi (As := [.int x4, .int 0, .int 9]) (rest := []) m_X10_115 (t_X10_within (Γ := Γ) hS e8) (Nat.le_of_ble_eq_true rfl) rfl rfl (Nat.le_of_ble_eq_true rfl) d_X10_canBeGood_34 ?_
        refine gb_if_eq 44 d_X10_canBeGood_37 (by decide) (fun hc => ?_) (fun hc => ?_)
        · have h := gb_it hc h
          refine gb_iconst 0 d_X10_canBeGood_44 rfl ?_
          cases h
          exact gb_zret d_X10_canBeGood_45 rfl rfl ⟨rfl, rfl, rfl⟩
        · have h := gb_if hc h
          refine gb_iconst 1 d_X10_canBeGood_40 rfl ?_
          refine gb_goto 45 d_X10_canBeGood_41 (by decide) ?_
          cases h
          exact gb_zret d_X10_canBeGood_45 rfl rfl ⟨rfl, rfl, rfl⟩
-- X10_grant
noncomputable def f_X10_grant (sh : List gb_Sh) (g : gb_G) (x1 : Int32) : Option (gb_G × Int32) := gb_let (gb_pi g 0 18 0) (fun g1 => some (g1, x1))
set_option maxRecDepth 100000 in
set_option maxHeartbeats 4000000 in
theorem t_X10_grant {Γ : gb_X} {sh : List gb_Sh} {x1 : Int32} {out : gb_G × Int32} (hS : gb_S sh) {g : gb_G} (h : f_X10_grant sh g x1 = some out) : gb_C Γ M_X10_grant 0 0 0 sh g [.ref 0, .int x1] (gb_Ri sh out) := by
  refine gb_C.of rfl (Nat.le_of_ble_eq_true rfl) ?_
  refine gb_pick (lv' := [(0, .ref 0), (1, .int x1)]) [0, 1] rfl ?_
  unfold f_X10_grant at h
  refine gb_aload_n d_X10_grant_0 rfl ?_
  refine gb_iconst 0 d_X10_grant_1 rfl ?_
  refine gb_puti f_X10_108 (fun h => nomatch h) (hS 0 _ rfl) rfl rfl rfl d_X10_grant_2 ?_
  have h := gb_let_e h
  generalize gb_pi g 0 18 0 = g1 at h ⊢
  refine gb_iload_n d_X10_grant_5 rfl ?_
  cases h
  exact gb_iret d_X10_grant_6 rfl ⟨rfl, rfl, rfl⟩
-- X10_refuse
noncomputable def f_X10_refuse (sh : List gb_Sh) (g : gb_G) (x1 : Int32) : Option (gb_G × Int32) := gb_let (gb_pi g 0 18 x1) (fun g1 => gb_bd (f_X10_within sh g1 (-x1) 0 (7 - 1)) (fun r2 => if r2.2 = 0 then (some (r2.1, x1)) else (gb_ck (-x1) 7 (gb_ck (-x1) 7 (gb_let (gb_pi r2.1 76 ((-x1).toNatClampNeg) ((r2.1.1 76 ((-x1).toNatClampNeg)) + 1)) (fun g6 => some (g6, x1)))))))
set_option maxRecDepth 100000 in
set_option maxHeartbeats 4000000 in
theorem t_X10_refuse {Γ : gb_X} {sh : List gb_Sh} {x1 : Int32} {out : gb_G × Int32} (hS : gb_S sh) {g : gb_G} (h : f_X10_refuse sh g x1 = some out) : gb_C Γ M_X10_refuse 1 0 0 sh g [.ref 0, .int x1] (gb_Ri sh out) := by
  refine gb_C.of rfl (Nat.le_of_ble_eq_true rfl) ?_
  refine gb_pick (lv' := [(0, .ref 0), (1, .int x1)]) [0, 1] rfl ?_
  unfold f_X10_refuse at h
  refine gb_aload_n d_X10_refuse_0 rfl ?_
  refine gb_iload_n d_X10_refuse_1 rfl ?_
  refine gb_puti f_X10_108 (fun h => nomatch h) (hS 0 _ rfl) rfl rfl rfl d_X10_refuse_2 ?_
  have h := gb_let_e h
  generalize gb_pi g 0 18 x1 = g1 at h ⊢
  refine gb_iload_n d_X10_refuse_5 rfl ?_
  refine gb_ineg d_X10_refuse_6 ?_
  refine gb_iconst 0 d_X10_refuse_7 rfl ?_
  refine gb_aload_n d_X10_refuse_8 rfl ?_
  refine gb_getr (r := 76) f_X10_95 (hS 0 _ rfl) rfl d_X10_refuse_9 ?_
  refine gb_alen 7 (by decide) (hS 76 _ rfl) rfl d_X10_refuse_12 ?_
  refine gb_iconst 1 d_X10_refuse_13 rfl ?_
  refine gb_isub d_X10_refuse_14 ?_
  obtain ⟨r2, e3, h⟩ := gb_bd_e h
  refine gb_cSi (As := [.int (-x1), .int 0, .int (7 - 1)]) (rest := []) m_X10_115 (t_X10_within (Γ := Γ) hS e3) (Nat.le_of_ble_eq_true rfl) rfl rfl (Nat.le_of_ble_eq_true rfl) d_X10_refuse_15 ?_
  refine gb_if_eq 32 d_X10_refuse_18 (by decide) (fun hc => ?_) (fun hc => ?_)
  · have h := gb_it hc h
    refine gb_iload_n d_X10_refuse_32 rfl ?_
    cases h
    exact gb_iret d_X10_refuse_33 rfl ⟨rfl, rfl, rfl⟩
  · have h := gb_if hc h
    refine gb_aload_n d_X10_refuse_21 rfl ?_
    refine gb_getr (r := 76) f_X10_95 (hS 0 _ rfl) rfl d_X10_refuse_22 ?_
    refine gb_iload_n d_X10_refuse_25 rfl ?_
    refine gb_ineg d_X10_refuse_26 ?_
    refine gb_dup2 d_X10_refuse_27 rfl rfl ?_
    obtain ⟨hi4, h⟩ := gb_ck_e h
    refine gb_iald_ ((-x1).toNatClampNeg) rfl (hS 76 _ rfl) hi4 d_X10_refuse_28 ?_
    refine gb_iconst 1 d_X10_refuse_29 rfl ?_
    refine gb_iadd d_X10_refuse_30 ?_
    obtain ⟨hi5, h⟩ := gb_ck_e h
    refine gb_iast_ ((-x1).toNatClampNeg) rfl (hS 76 _ rfl) hi5 d_X10_refuse_31 ?_
    have h := gb_let_e h
    generalize gb_pi r2.1 76 ((-x1).toNatClampNeg) ((r2.1.1 76 ((-x1).toNatClampNeg)) + 1) = g6 at h ⊢
    refine gb_iload_n d_X10_refuse_32 rfl ?_
    cases h
    exact gb_iret d_X10_refuse_33 rfl ⟨rfl, rfl, rfl⟩
-- X10_good
noncomputable def f_X10_good_22 (sh : List gb_Sh) (g : gb_G)  : Option (gb_G × Int32) := gb_bd (f_X10_refuse sh g (-1)) (fun r3 => some (r3.1, r3.2))
noncomputable def f_X10_good (sh : List gb_Sh) (g : gb_G) (x1 : Int32) (x2 : Int32) (x3 : Int32) (x4 : Int32) (x5 : Int32) : Option (gb_G × Int32) := gb_bd (f_X10_canBeGood sh g x1 x2 x3 x4) (fun r1 => if r1.2 = 0 then (f_X10_good_22 sh r1.1 ) else (gb_bd (f_X10_within sh r1.1 x5 0 24) (fun r5 => if r5.2 = 0 then (f_X10_good_22 sh r5.1 ) else (if (r5.1.1 1 0) < 8 then (gb_bd (f_X3_clear sh r5.1 33) (fun r7 => gb_bd (f_X0_add sh r7 1 x1 x2 x3 x4 x5) (fun r9 => gb_bd (f_X10_grant sh r9.1 r9.2) (fun r11 => some (r11.1, r11.2))))) else (gb_bd (f_X10_refuse sh r5.1 (-5)) (fun r13 => some (r13.1, r13.2)))))))
set_option maxRecDepth 100000 in
set_option maxHeartbeats 4000000 in
theorem t_X10_good_22 {Γ : gb_X} {sh : List gb_Sh} {out : gb_G × Int32} (hS : gb_S sh) : ∀ (g : gb_G) , f_X10_good_22 sh g  = some out → gb_J Γ M_X10_good 4 (gb_Ri sh out) 0 0 sh g 22 [(0, .ref 0)] [] := by
  intro g  h
  unfold f_X10_good_22 at h
  refine gb_aload_n d_X10_good_22 rfl ?_
  refine gb_iconst (-1) d_X10_good_23 rfl ?_
  obtain ⟨r3, e4, h⟩ := gb_bd_e h
  refine gb_cVi (As := [.int (-1)]) (rest := []) m_X10_119 (t_X10_refuse (Γ := Γ) hS e4) (hS 0 _ rfl) rfl (Nat.le_of_ble_eq_true rfl) rfl rfl (Nat.le_of_ble_eq_true rfl) d_X10_good_24 ?_
  cases h
  exact gb_iret d_X10_good_27 rfl ⟨rfl, rfl, rfl⟩
set_option maxRecDepth 100000 in
set_option maxHeartbeats 4000000 in
theorem t_X10_good {Γ : gb_X} {sh : List gb_Sh} {x1 : Int32} {x2 : Int32} {x3 : Int32} {x4 : Int32} {x5 : Int32} {out : gb_G × Int32} (hS : gb_S sh) {g : gb_G} (h : f_X10_good sh g x1 x2 x3 x4 x5 = some out) : gb_C Γ M_X10_good 4 0 0 sh g [.ref 0, .int x1, .int x2, .int x3, .int x4, .int x5] (gb_Ri sh out) := by
  refine gb_C.of rfl (Nat.le_of_ble_eq_true rfl) ?_
  refine gb_pick (lv' := [(0, .ref 0), (1, .int x1), (2, .int x2), (3, .int x3), (4, .int x4), (5, .int x5)]) [0, 1, 2, 3, 4, 5] rfl ?_
  unfold f_X10_good at h
  refine gb_iload_n d_X10_good_0 rfl ?_
  refine gb_iload_n d_X10_good_1 rfl ?_
  refine gb_iload_n d_X10_good_2 rfl ?_
  refine gb_iload d_X10_good_3 rfl ?_
  obtain ⟨r1, e2, h⟩ := gb_bd_e h
  refine gb_cSi (As := [.int x1, .int x2, .int x3, .int x4]) (rest := []) m_X10_111 (t_X10_canBeGood (Γ := Γ) hS e2) (Nat.le_of_ble_eq_true rfl) rfl rfl (Nat.le_of_ble_eq_true rfl) d_X10_good_5 ?_
  refine gb_if_eq 22 d_X10_good_8 (by decide) (fun hc => ?_) (fun hc => ?_)
  · have h := gb_it hc h
    refine gb_pick (lv' := [(0, .ref 0)]) [0] rfl ?_
    exact t_X10_good_22 hS  _  h
  · have h := gb_if hc h
    refine gb_iload d_X10_good_11 rfl ?_
    refine gb_iconst 0 d_X10_good_13 rfl ?_
    refine gb_bipush 24 d_X10_good_14 rfl ?_
    obtain ⟨r5, e6, h⟩ := gb_bd_e h
    refine gb_cSi (As := [.int x5, .int 0, .int 24]) (rest := []) m_X10_115 (t_X10_within (Γ := Γ) hS e6) (Nat.le_of_ble_eq_true rfl) rfl rfl (Nat.le_of_ble_eq_true rfl) d_X10_good_16 ?_
    refine gb_if_ne 28 d_X10_good_19 (by decide) (fun hc => ?_) (fun hc => ?_)
    · have h := gb_if hc h
      refine gb_aload_n d_X10_good_28 rfl ?_
      refine gb_getr (r := 1) f_X10_14 (hS 0 _ rfl) rfl d_X10_good_29 ?_
      refine gb_geti f_X10_123 (ok_X0_1 hS).1 rfl d_X10_good_32 ?_
      refine gb_bipush 8 d_X10_good_35 rfl ?_
      refine gb_icmp_lt 47 d_X10_good_37 (by decide) (fun hc => ?_) (fun hc => ?_)
      · have h := gb_it hc h
        refine gb_aload_n d_X10_good_47 rfl ?_
        refine gb_getr (r := 33) f_X10_35 (hS 0 _ rfl) rfl d_X10_good_48 ?_
        obtain ⟨r7, e8, h⟩ := gb_bd_e h
        refine gb_cVv (As := []) (rest := []) m_X10_126 (t_X3_clear (Γ := Γ) hS (ok_X3_33 hS) e8) (ok_X3_33 hS).1 rfl (Nat.le_of_ble_eq_true rfl) rfl rfl (Nat.le_of_ble_eq_true rfl) d_X10_good_51 ?_
        refine gb_aload_n d_X10_good_54 rfl ?_
        refine gb_aload_n d_X10_good_55 rfl ?_
        refine gb_getr (r := 1) f_X10_14 (hS 0 _ rfl) rfl d_X10_good_56 ?_
        refine gb_iload_n d_X10_good_59 rfl ?_
        refine gb_iload_n d_X10_good_60 rfl ?_
        refine gb_iload_n d_X10_good_61 rfl ?_
        refine gb_iload d_X10_good_62 rfl ?_
        refine gb_iload d_X10_good_64 rfl ?_
        obtain ⟨r9, e10, h⟩ := gb_bd_e h
        refine gb_cVi (As := [.int x1, .int x2, .int x3, .int x4, .int x5]) (rest := [.ref 0]) m_X10_129 (t_X0_add (Γ := Γ) hS (ok_X0_1 hS) e10) (ok_X0_1 hS).1 rfl (Nat.le_of_ble_eq_true rfl) rfl rfl (Nat.le_of_ble_eq_true rfl) d_X10_good_66 ?_
        obtain ⟨r11, e12, h⟩ := gb_bd_e h
        refine gb_cVi (As := [.int r9.2]) (rest := []) m_X10_133 (t_X10_grant (Γ := Γ) hS e12) (hS 0 _ rfl) rfl (Nat.le_of_ble_eq_true rfl) rfl rfl (Nat.le_of_ble_eq_true rfl) d_X10_good_69 ?_
        cases h
        exact gb_iret d_X10_good_72 rfl ⟨rfl, rfl, rfl⟩
      · have h := gb_if hc h
        refine gb_aload_n d_X10_good_40 rfl ?_
        refine gb_bipush (-5) d_X10_good_41 rfl ?_
        obtain ⟨r13, e14, h⟩ := gb_bd_e h
        refine gb_cVi (As := [.int (-5)]) (rest := []) m_X10_119 (t_X10_refuse (Γ := Γ) hS e14) (hS 0 _ rfl) rfl (Nat.le_of_ble_eq_true rfl) rfl rfl (Nat.le_of_ble_eq_true rfl) d_X10_good_43 ?_
        cases h
        exact gb_iret d_X10_good_46 rfl ⟨rfl, rfl, rfl⟩
    · have h := gb_it hc h
      refine gb_pick (lv' := [(0, .ref 0)]) [0] rfl ?_
      exact t_X10_good_22 hS  _  h
-- X10_of
noncomputable def f_X10_of (sh : List gb_Sh) (g : gb_G) (x1 : Int32) (x2 : Int32) : Option (gb_G × Int32) := gb_bd (f_X0_read sh g 1 x1 x2) (fun r1 => some (r1.1, r1.2))
set_option maxRecDepth 100000 in
set_option maxHeartbeats 4000000 in
theorem t_X10_of {Γ : gb_X} {sh : List gb_Sh} {x1 : Int32} {x2 : Int32} {out : gb_G × Int32} (hS : gb_S sh) {g : gb_G} (h : f_X10_of sh g x1 x2 = some out) : gb_C Γ M_X10_of 1 0 0 sh g [.ref 0, .int x1, .int x2] (gb_Ri sh out) := by
  refine gb_C.of rfl (Nat.le_of_ble_eq_true rfl) ?_
  refine gb_pick (lv' := [(0, .ref 0), (1, .int x1), (2, .int x2)]) [0, 1, 2] rfl ?_
  unfold f_X10_of at h
  refine gb_aload_n d_X10_of_0 rfl ?_
  refine gb_getr (r := 1) f_X10_14 (hS 0 _ rfl) rfl d_X10_of_1 ?_
  refine gb_iload_n d_X10_of_4 rfl ?_
  refine gb_iload_n d_X10_of_5 rfl ?_
  obtain ⟨r1, e2, h⟩ := gb_bd_e h
  refine gb_cVi (As := [.int x1, .int x2]) (rest := []) m_X10_136 (t_X0_read (Γ := Γ) hS (ok_X0_1 hS) e2) (ok_X0_1 hS).1 rfl (Nat.le_of_ble_eq_true rfl) rfl rfl (Nat.le_of_ble_eq_true rfl) d_X10_of_6 ?_
  cases h
  exact gb_iret d_X10_of_9 rfl ⟨rfl, rfl, rfl⟩
-- X10_asks
noncomputable def f_X10_asks_20 (sh : List gb_Sh) (g : gb_G)  : Option (gb_G × Int32) := some (g, (-100000))
noncomputable def f_X10_asks (sh : List gb_Sh) (g : gb_G) (x1 : Int32) (x2 : Int32) : Option (gb_G × Int32) := gb_bd (f_X0_has sh g 1 x1) (fun r1 => if r1.2 = 0 then (f_X10_asks_20 sh r1.1 ) else (gb_bd (f_X10_within sh r1.1 x2 0 3) (fun r3 => if r3.2 = 0 then (f_X10_asks_20 sh r3.1 ) else (gb_bd (f_X0_lawInForce sh r3.1 1) (fun r5 => gb_bd (f_X4_tell sh r5.1 1 r5.2 x1 x2) (fun r7 => some (r7.1, r7.2)))))))
set_option maxRecDepth 100000 in
set_option maxHeartbeats 4000000 in
theorem t_X10_asks_20 {Γ : gb_X} {sh : List gb_Sh} {out : gb_G × Int32} (hS : gb_S sh) : ∀ (g : gb_G) , f_X10_asks_20 sh g  = some out → gb_J Γ M_X10_asks 3 (gb_Ri sh out) 0 0 sh g 20 [] [] := by
  intro g  h
  unfold f_X10_asks_20 at h
  refine gb_ldc (-100000) k_X10_144 d_X10_asks_20 ?_
  cases h
  exact gb_iret d_X10_asks_22 rfl ⟨rfl, rfl, rfl⟩
set_option maxRecDepth 100000 in
set_option maxHeartbeats 4000000 in
theorem t_X10_asks {Γ : gb_X} {sh : List gb_Sh} {x1 : Int32} {x2 : Int32} {out : gb_G × Int32} (hS : gb_S sh) {g : gb_G} (h : f_X10_asks sh g x1 x2 = some out) : gb_C Γ M_X10_asks 3 0 0 sh g [.ref 0, .int x1, .int x2] (gb_Ri sh out) := by
  refine gb_C.of rfl (Nat.le_of_ble_eq_true rfl) ?_
  refine gb_pick (lv' := [(0, .ref 0), (1, .int x1), (2, .int x2)]) [0, 1, 2] rfl ?_
  unfold f_X10_asks at h
  refine gb_aload_n d_X10_asks_0 rfl ?_
  refine gb_getr (r := 1) f_X10_14 (hS 0 _ rfl) rfl d_X10_asks_1 ?_
  refine gb_iload_n d_X10_asks_4 rfl ?_
  obtain ⟨r1, e2, h⟩ := gb_bd_e h
  refine gb_cVi (As := [.int x1]) (rest := []) m_X10_140 (t_X0_has (Γ := Γ) hS (ok_X0_1 hS) e2) (ok_X0_1 hS).1 rfl (Nat.le_of_ble_eq_true rfl) rfl rfl (Nat.le_of_ble_eq_true rfl) d_X10_asks_5 ?_
  refine gb_if_eq 20 d_X10_asks_8 (by decide) (fun hc => ?_) (fun hc => ?_)
  · have h := gb_it hc h
    refine gb_pick (lv' := []) [] rfl ?_
    exact t_X10_asks_20 hS  _  h
  · have h := gb_if hc h
    refine gb_iload_n d_X10_asks_11 rfl ?_
    refine gb_iconst 0 d_X10_asks_12 rfl ?_
    refine gb_iconst 3 d_X10_asks_13 rfl ?_
    obtain ⟨r3, e4, h⟩ := gb_bd_e h
    refine gb_cSi (As := [.int x2, .int 0, .int 3]) (rest := []) m_X10_115 (t_X10_within (Γ := Γ) hS e4) (Nat.le_of_ble_eq_true rfl) rfl rfl (Nat.le_of_ble_eq_true rfl) d_X10_asks_14 ?_
    refine gb_if_ne 23 d_X10_asks_17 (by decide) (fun hc => ?_) (fun hc => ?_)
    · have h := gb_if hc h
      refine gb_aload_n d_X10_asks_23 rfl ?_
      refine gb_getr (r := 54) f_X10_70 (hS 0 _ rfl) rfl d_X10_asks_24 ?_
      refine gb_aload_n d_X10_asks_27 rfl ?_
      refine gb_getr (r := 1) f_X10_14 (hS 0 _ rfl) rfl d_X10_asks_28 ?_
      refine gb_aload_n d_X10_asks_31 rfl ?_
      refine gb_getr (r := 1) f_X10_14 (hS 0 _ rfl) rfl d_X10_asks_32 ?_
      obtain ⟨r5, e6, h⟩ := gb_bd_e h
      refine gb_cVq (As := []) (rest := [.ref 1, .ref 54]) m_X10_145 (t_X0_lawInForce (Γ := Γ) hS (ok_X0_1 hS) e6) (ok_X0_1 hS).1 rfl (Nat.le_of_ble_eq_true rfl) rfl rfl (Nat.le_of_ble_eq_true rfl) d_X10_asks_35 ?_
      refine gb_iload_n d_X10_asks_38 rfl ?_
      refine gb_iload_n d_X10_asks_39 rfl ?_
      obtain ⟨r7, e8, h⟩ := gb_bd_e h
      refine gb_cVi (As := [.ref 1, va_rf r5.2, .int x1, .int x2]) (rest := []) m_X10_149 (t_X4_tell (Γ := Γ) hS (ok_X0_1 hS) e8) (hS 54 _ rfl) rfl (Nat.le_of_ble_eq_true rfl) rfl rfl (Nat.le_of_ble_eq_true rfl) d_X10_asks_40 ?_
      cases h
      exact gb_iret d_X10_asks_43 rfl ⟨rfl, rfl, rfl⟩
    · have h := gb_it hc h
      refine gb_pick (lv' := []) [] rfl ?_
      exact t_X10_asks_20 hS  _  h
-- X10_stand
noncomputable def f_X10_stand_27 (sh : List gb_Sh) (g : gb_G) (y1 : Int32) (y2 : Int32) : Option (gb_G × Int32) := gb_bd (f_X0_has sh g 1 y1) (fun r1 => if r1.2 = 0 then (gb_bd (f_X10_refuse sh r1.1 (-2)) (fun r9 => some (r9.1, r9.2))) else (gb_bd (f_X0_write sh r1.1 1 y1 6 y2) (fun r3 => gb_bd (f_X3_clear sh r3 33) (fun r5 => gb_bd (f_X10_grant sh r5 0) (fun r7 => some (r7.1, r7.2))))))
noncomputable def f_X10_stand_21 (sh : List gb_Sh) (g : gb_G)  : Option (gb_G × Int32) := gb_bd (f_X10_refuse sh g (-1)) (fun r11 => some (r11.1, r11.2))
noncomputable def f_X10_stand (sh : List gb_Sh) (g : gb_G) (x1 : Int32) (x2 : Int32) : Option (gb_G × Int32) := if x2 = (-1) then (f_X10_stand_27 sh g x1 x2) else (if x2 = x1 then (f_X10_stand_21 sh g ) else (gb_bd (f_X0_has sh g 1 x2) (fun r13 => if r13.2 = 0 then (f_X10_stand_21 sh r13.1 ) else (f_X10_stand_27 sh r13.1 x1 x2))))
set_option maxRecDepth 100000 in
set_option maxHeartbeats 4000000 in
theorem t_X10_stand_27 {Γ : gb_X} {sh : List gb_Sh} {out : gb_G × Int32} (hS : gb_S sh) : ∀ (g : gb_G) (y1 : Int32) (y2 : Int32), f_X10_stand_27 sh g y1 y2 = some out → gb_J Γ M_X10_stand 3 (gb_Ri sh out) 0 0 sh g 27 [(0, .ref 0), (1, .int y1), (2, .int y2)] [] := by
  intro g y1 y2 h
  unfold f_X10_stand_27 at h
  refine gb_aload_n d_X10_stand_27 rfl ?_
  refine gb_getr (r := 1) f_X10_14 (hS 0 _ rfl) rfl d_X10_stand_28 ?_
  refine gb_iload_n d_X10_stand_31 rfl ?_
  obtain ⟨r1, e2, h⟩ := gb_bd_e h
  refine gb_cVi (As := [.int y1]) (rest := []) m_X10_140 (t_X0_has (Γ := Γ) hS (ok_X0_1 hS) e2) (ok_X0_1 hS).1 rfl (Nat.le_of_ble_eq_true rfl) rfl rfl (Nat.le_of_ble_eq_true rfl) d_X10_stand_32 ?_
  refine gb_if_ne 45 d_X10_stand_35 (by decide) (fun hc => ?_) (fun hc => ?_)
  · have h := gb_if hc h
    refine gb_aload_n d_X10_stand_45 rfl ?_
    refine gb_getr (r := 1) f_X10_14 (hS 0 _ rfl) rfl d_X10_stand_46 ?_
    refine gb_iload_n d_X10_stand_49 rfl ?_
    refine gb_bipush 6 d_X10_stand_50 rfl ?_
    refine gb_iload_n d_X10_stand_52 rfl ?_
    obtain ⟨r3, e4, h⟩ := gb_bd_e h
    refine gb_cVv (As := [.int y1, .int 6, .int y2]) (rest := []) m_X10_153 (t_X0_write (Γ := Γ) hS (ok_X0_1 hS) e4) (ok_X0_1 hS).1 rfl (Nat.le_of_ble_eq_true rfl) rfl rfl (Nat.le_of_ble_eq_true rfl) d_X10_stand_53 ?_
    refine gb_aload_n d_X10_stand_56 rfl ?_
    refine gb_getr (r := 33) f_X10_35 (hS 0 _ rfl) rfl d_X10_stand_57 ?_
    obtain ⟨r5, e6, h⟩ := gb_bd_e h
    refine gb_cVv (As := []) (rest := []) m_X10_126 (t_X3_clear (Γ := Γ) hS (ok_X3_33 hS) e6) (ok_X3_33 hS).1 rfl (Nat.le_of_ble_eq_true rfl) rfl rfl (Nat.le_of_ble_eq_true rfl) d_X10_stand_60 ?_
    refine gb_aload_n d_X10_stand_63 rfl ?_
    refine gb_iconst 0 d_X10_stand_64 rfl ?_
    obtain ⟨r7, e8, h⟩ := gb_bd_e h
    refine gb_cVi (As := [.int 0]) (rest := []) m_X10_133 (t_X10_grant (Γ := Γ) hS e8) (hS 0 _ rfl) rfl (Nat.le_of_ble_eq_true rfl) rfl rfl (Nat.le_of_ble_eq_true rfl) d_X10_stand_65 ?_
    cases h
    exact gb_iret d_X10_stand_68 rfl ⟨rfl, rfl, rfl⟩
  · have h := gb_it hc h
    refine gb_aload_n d_X10_stand_38 rfl ?_
    refine gb_bipush (-2) d_X10_stand_39 rfl ?_
    obtain ⟨r9, e10, h⟩ := gb_bd_e h
    refine gb_cVi (As := [.int (-2)]) (rest := []) m_X10_119 (t_X10_refuse (Γ := Γ) hS e10) (hS 0 _ rfl) rfl (Nat.le_of_ble_eq_true rfl) rfl rfl (Nat.le_of_ble_eq_true rfl) d_X10_stand_41 ?_
    cases h
    exact gb_iret d_X10_stand_44 rfl ⟨rfl, rfl, rfl⟩
set_option maxRecDepth 100000 in
set_option maxHeartbeats 4000000 in
theorem t_X10_stand_21 {Γ : gb_X} {sh : List gb_Sh} {out : gb_G × Int32} (hS : gb_S sh) : ∀ (g : gb_G) , f_X10_stand_21 sh g  = some out → gb_J Γ M_X10_stand 3 (gb_Ri sh out) 0 0 sh g 21 [(0, .ref 0)] [] := by
  intro g  h
  unfold f_X10_stand_21 at h
  refine gb_aload_n d_X10_stand_21 rfl ?_
  refine gb_iconst (-1) d_X10_stand_22 rfl ?_
  obtain ⟨r11, e12, h⟩ := gb_bd_e h
  refine gb_cVi (As := [.int (-1)]) (rest := []) m_X10_119 (t_X10_refuse (Γ := Γ) hS e12) (hS 0 _ rfl) rfl (Nat.le_of_ble_eq_true rfl) rfl rfl (Nat.le_of_ble_eq_true rfl) d_X10_stand_23 ?_
  cases h
  exact gb_iret d_X10_stand_26 rfl ⟨rfl, rfl, rfl⟩
set_option maxRecDepth 100000 in
set_option maxHeartbeats 4000000 in
theorem t_X10_stand {Γ : gb_X} {sh : List gb_Sh} {x1 : Int32} {x2 : Int32} {out : gb_G × Int32} (hS : gb_S sh) {g : gb_G} (h : f_X10_stand sh g x1 x2 = some out) : gb_C Γ M_X10_stand 3 0 0 sh g [.ref 0, .int x1, .int x2] (gb_Ri sh out) := by
  refine gb_C.of rfl (Nat.le_of_ble_eq_true rfl) ?_
  refine gb_pick (lv' := [(0, .ref 0), (1, .int x1), (2, .int x2)]) [0, 1, 2] rfl ?_
  unfold f_X10_stand at h
  refine gb_iload_n d_X10_stand_0 rfl ?_
  refine gb_iconst (-1) d_X10_stand_1 rfl ?_
  refine gb_icmp_eq 27 d_X10_stand_2 (by decide) (fun hc => ?_) (fun hc => ?_)
  · have h := gb_it hc h
    exact t_X10_stand_27 hS  _ x1 x2 h
  · have h := gb_if hc h
    refine gb_iload_n d_X10_stand_5 rfl ?_
    refine gb_iload_n d_X10_stand_6 rfl ?_
    refine gb_icmp_eq 21 d_X10_stand_7 (by decide) (fun hc => ?_) (fun hc => ?_)
    · have h := gb_it hc h
      refine gb_pick (lv' := [(0, .ref 0)]) [0] rfl ?_
      exact t_X10_stand_21 hS  _  h
    · have h := gb_if hc h
      refine gb_aload_n d_X10_stand_10 rfl ?_
      refine gb_getr (r := 1) f_X10_14 (hS 0 _ rfl) rfl d_X10_stand_11 ?_
      refine gb_iload_n d_X10_stand_14 rfl ?_
      obtain ⟨r13, e14, h⟩ := gb_bd_e h
      refine gb_cVi (As := [.int x2]) (rest := []) m_X10_140 (t_X0_has (Γ := Γ) hS (ok_X0_1 hS) e14) (ok_X0_1 hS).1 rfl (Nat.le_of_ble_eq_true rfl) rfl rfl (Nat.le_of_ble_eq_true rfl) d_X10_stand_15 ?_
      refine gb_if_ne 27 d_X10_stand_18 (by decide) (fun hc => ?_) (fun hc => ?_)
      · have h := gb_if hc h
        exact t_X10_stand_27 hS  _ x1 x2 h
      · have h := gb_it hc h
        refine gb_pick (lv' := [(0, .ref 0)]) [0] rfl ?_
        exact t_X10_stand_21 hS  _  h
-- X10_person
noncomputable def f_X10_person (sh : List gb_Sh) (g : gb_G) : Option (gb_G × Int32) := if (g.1 1 2) < 5 then (gb_let (gb_pi g 1 2 ((g.1 1 2) + 1)) (fun g1 => gb_bd (f_X10_grant sh g1 ((g1.1 1 2) - 1)) (fun r2 => some (r2.1, r2.2)))) else (gb_bd (f_X10_refuse sh g (-5)) (fun r4 => some (r4.1, r4.2)))
set_option maxRecDepth 100000 in
set_option maxHeartbeats 4000000 in
theorem t_X10_person {Γ : gb_X} {sh : List gb_Sh} {out : gb_G × Int32} (hS : gb_S sh) {g : gb_G} (h : f_X10_person sh g = some out) : gb_C Γ M_X10_person 2 0 0 sh g [.ref 0] (gb_Ri sh out) := by
  refine gb_C.of rfl (Nat.le_of_ble_eq_true rfl) ?_
  refine gb_pick (lv' := [(0, .ref 0)]) [0] rfl ?_
  unfold f_X10_person at h
  refine gb_aload_n d_X10_person_0 rfl ?_
  refine gb_getr (r := 1) f_X10_14 (hS 0 _ rfl) rfl d_X10_person_1 ?_
  refine gb_geti f_X10_157 (ok_X0_1 hS).1 rfl d_X10_person_4 ?_
  refine gb_iconst 5 d_X10_person_7 rfl ?_
  refine gb_icmp_lt 18 d_X10_person_8 (by decide) (fun hc => ?_) (fun hc => ?_)
  · have h := gb_it hc h
    refine gb_aload_n d_X10_person_18 rfl ?_
    refine gb_getr (r := 1) f_X10_14 (hS 0 _ rfl) rfl d_X10_person_19 ?_
    refine gb_dup d_X10_person_22 rfl ?_
    refine gb_geti f_X10_157 (ok_X0_1 hS).1 rfl d_X10_person_23 ?_
    refine gb_iconst 1 d_X10_person_26 rfl ?_
    refine gb_iadd d_X10_person_27 ?_
    refine gb_puti f_X10_157 (fun h => nomatch h) (ok_X0_1 hS).1 rfl rfl rfl d_X10_person_28 ?_
    have h := gb_let_e h
    generalize gb_pi g 1 2 ((g.1 1 2) + 1) = g1 at h ⊢
    refine gb_aload_n d_X10_person_31 rfl ?_
    refine gb_aload_n d_X10_person_32 rfl ?_
    refine gb_getr (r := 1) f_X10_14 (hS 0 _ rfl) rfl d_X10_person_33 ?_
    refine gb_geti f_X10_157 (ok_X0_1 hS).1 rfl d_X10_person_36 ?_
    refine gb_iconst 1 d_X10_person_39 rfl ?_
    refine gb_isub d_X10_person_40 ?_
    obtain ⟨r2, e3, h⟩ := gb_bd_e h
    refine gb_cVi (As := [.int ((g1.1 1 2) - 1)]) (rest := []) m_X10_133 (t_X10_grant (Γ := Γ) hS e3) (hS 0 _ rfl) rfl (Nat.le_of_ble_eq_true rfl) rfl rfl (Nat.le_of_ble_eq_true rfl) d_X10_person_41 ?_
    cases h
    exact gb_iret d_X10_person_44 rfl ⟨rfl, rfl, rfl⟩
  · have h := gb_if hc h
    refine gb_aload_n d_X10_person_11 rfl ?_
    refine gb_bipush (-5) d_X10_person_12 rfl ?_
    obtain ⟨r4, e5, h⟩ := gb_bd_e h
    refine gb_cVi (As := [.int (-5)]) (rest := []) m_X10_119 (t_X10_refuse (Γ := Γ) hS e5) (hS 0 _ rfl) rfl (Nat.le_of_ble_eq_true rfl) rfl rfl (Nat.le_of_ble_eq_true rfl) d_X10_person_14 ?_
    cases h
    exact gb_iret d_X10_person_17 rfl ⟨rfl, rfl, rfl⟩
-- X10_own
noncomputable def f_X10_own_44 (sh : List gb_Sh) (g : gb_G)  : Option (gb_G × Int32) := gb_bd (f_X10_refuse sh g (-2)) (fun r5 => some (r5.1, r5.2))
noncomputable def f_X10_own (sh : List gb_Sh) (g : gb_G) (x1 : Int32) (x2 : Int32) (x3 : Int32) : Option (gb_G × Int32) := gb_bd (f_X10_within sh g x3 0 9) (fun r1 => if r1.2 = 0 then (gb_bd (f_X10_refuse sh r1.1 (-1)) (fun r15 => some (r15.1, r15.2))) else (gb_bd (f_X10_within sh r1.1 x1 0 ((r1.1.1 1 2) - 1)) (fun r3 => if r3.2 = 0 then (f_X10_own_44 sh r3.1 ) else (gb_bd (f_X0_has sh r3.1 1 x2) (fun r7 => if r7.2 = 0 then (f_X10_own_44 sh r7.1 ) else (gb_bd (f_X0_ownWeight sh r7.1 1 x1 x2) (fun r9 => gb_ck ((x1 * 8) + x2) 40 (gb_let (gb_pi r9.1 (1 + 2) (((x1 * 8) + x2).toNatClampNeg) x3) (fun g12 => gb_bd (f_X10_grant sh g12 r9.2) (fun r13 => some (r13.1, r13.2)))))))))))
set_option maxRecDepth 100000 in
set_option maxHeartbeats 4000000 in
theorem t_X10_own_44 {Γ : gb_X} {sh : List gb_Sh} {out : gb_G × Int32} (hS : gb_S sh) : ∀ (g : gb_G) , f_X10_own_44 sh g  = some out → gb_J Γ M_X10_own 2 (gb_Ri sh out) 0 0 sh g 44 [(0, .ref 0)] [] := by
  intro g  h
  unfold f_X10_own_44 at h
  refine gb_aload_n d_X10_own_44 rfl ?_
  refine gb_bipush (-2) d_X10_own_45 rfl ?_
  obtain ⟨r5, e6, h⟩ := gb_bd_e h
  refine gb_cVi (As := [.int (-2)]) (rest := []) m_X10_119 (t_X10_refuse (Γ := Γ) hS e6) (hS 0 _ rfl) rfl (Nat.le_of_ble_eq_true rfl) rfl rfl (Nat.le_of_ble_eq_true rfl) d_X10_own_47 ?_
  cases h
  exact gb_iret d_X10_own_50 rfl ⟨rfl, rfl, rfl⟩
set_option maxRecDepth 100000 in
set_option maxHeartbeats 4000000 in
theorem t_X10_own {Γ : gb_X} {sh : List gb_Sh} {x1 : Int32} {x2 : Int32} {x3 : Int32} {out : gb_G × Int32} (hS : gb_S sh) {g : gb_G} (h : f_X10_own sh g x1 x2 x3 = some out) : gb_C Γ M_X10_own 2 0 0 sh g [.ref 0, .int x1, .int x2, .int x3] (gb_Ri sh out) := by
  refine gb_C.of rfl (Nat.le_of_ble_eq_true rfl) ?_
  refine gb_pick (lv' := [(0, .ref 0), (1, .int x1), (2, .int x2), (3, .int x3)]) [0, 1, 2, 3] rfl ?_
  unfold f_X10_own at h
  refine gb_iload_n d_X10_own_0 rfl ?_
  refine gb_iconst 0 d_X10_own_1 rfl ?_
  refine gb_bipush 9 d_X10_own_2 rfl ?_
  obtain ⟨r1, e2, h⟩ := gb_bd_e h
  refine gb_cSi (As := [.int x3, .int 0, .int 9]) (rest := []) m_X10_115 (t_X10_within (Γ := Γ) hS e2) (Nat.le_of_ble_eq_true rfl) rfl rfl (Nat.le_of_ble_eq_true rfl) d_X10_own_4 ?_
  refine gb_if_ne 16 d_X10_own_7 (by decide) (fun hc => ?_) (fun hc => ?_)
  · have h := gb_if hc h
    refine gb_iload_n d_X10_own_16 rfl ?_
    refine gb_iconst 0 d_X10_own_17 rfl ?_
    refine gb_aload_n d_X10_own_18 rfl ?_
    refine gb_getr (r := 1) f_X10_14 (hS 0 _ rfl) rfl d_X10_own_19 ?_
    refine gb_geti f_X10_157 (ok_X0_1 hS).1 rfl d_X10_own_22 ?_
    refine gb_iconst 1 d_X10_own_25 rfl ?_
    refine gb_isub d_X10_own_26 ?_
    obtain ⟨r3, e4, h⟩ := gb_bd_e h
    refine gb_cSi (As := [.int x1, .int 0, .int ((r1.1.1 1 2) - 1)]) (rest := []) m_X10_115 (t_X10_within (Γ := Γ) hS e4) (Nat.le_of_ble_eq_true rfl) rfl rfl (Nat.le_of_ble_eq_true rfl) d_X10_own_27 ?_
    refine gb_if_eq 44 d_X10_own_30 (by decide) (fun hc => ?_) (fun hc => ?_)
    · have h := gb_it hc h
      refine gb_pick (lv' := [(0, .ref 0)]) [0] rfl ?_
      exact t_X10_own_44 hS  _  h
    · have h := gb_if hc h
      refine gb_aload_n d_X10_own_33 rfl ?_
      refine gb_getr (r := 1) f_X10_14 (hS 0 _ rfl) rfl d_X10_own_34 ?_
      refine gb_iload_n d_X10_own_37 rfl ?_
      obtain ⟨r7, e8, h⟩ := gb_bd_e h
      refine gb_cVi (As := [.int x2]) (rest := []) m_X10_140 (t_X0_has (Γ := Γ) hS (ok_X0_1 hS) e8) (ok_X0_1 hS).1 rfl (Nat.le_of_ble_eq_true rfl) rfl rfl (Nat.le_of_ble_eq_true rfl) d_X10_own_38 ?_
      refine gb_if_ne 51 d_X10_own_41 (by decide) (fun hc => ?_) (fun hc => ?_)
      · have h := gb_if hc h
        refine gb_aload_n d_X10_own_51 rfl ?_
        refine gb_getr (r := 1) f_X10_14 (hS 0 _ rfl) rfl d_X10_own_52 ?_
        refine gb_iload_n d_X10_own_55 rfl ?_
        refine gb_iload_n d_X10_own_56 rfl ?_
        obtain ⟨r9, e10, h⟩ := gb_bd_e h
        refine gb_cVi (As := [.int x1, .int x2]) (rest := []) m_X10_160 (t_X0_ownWeight (Γ := Γ) hS (ok_X0_1 hS) e10) (ok_X0_1 hS).1 rfl (Nat.le_of_ble_eq_true rfl) rfl rfl (Nat.le_of_ble_eq_true rfl) d_X10_own_57 ?_
        refine gb_istore [(4, .int r9.2), (0, .ref 0), (1, .int x1), (2, .int x2), (3, .int x3)] d_X10_own_60 (Nat.le_of_ble_eq_true rfl) rfl ?_
        refine gb_aload_n d_X10_own_62 rfl ?_
        refine gb_getr (r := 1) f_X10_14 (hS 0 _ rfl) rfl d_X10_own_63 ?_
        refine gb_getr (r := (1 + 2)) f_X10_163 (ok_X0_1 hS).1 rfl d_X10_own_66 ?_
        refine gb_iload_n d_X10_own_69 rfl ?_
        refine gb_bipush 8 d_X10_own_70 rfl ?_
        refine gb_imul d_X10_own_72 ?_
        refine gb_iload_n d_X10_own_73 rfl ?_
        refine gb_iadd d_X10_own_74 ?_
        refine gb_iload_n d_X10_own_75 rfl ?_
        obtain ⟨hi11, h⟩ := gb_ck_e h
        refine gb_iast_ (((x1 * 8) + x2).toNatClampNeg) rfl (ok_X0_1 hS).2.2.1 hi11 d_X10_own_76 ?_
        have h := gb_let_e h
        generalize gb_pi r9.1 (1 + 2) (((x1 * 8) + x2).toNatClampNeg) x3 = g12 at h ⊢
        refine gb_aload_n d_X10_own_77 rfl ?_
        refine gb_iload d_X10_own_78 rfl ?_
        obtain ⟨r13, e14, h⟩ := gb_bd_e h
        refine gb_cVi (As := [.int r9.2]) (rest := []) m_X10_133 (t_X10_grant (Γ := Γ) hS e14) (hS 0 _ rfl) rfl (Nat.le_of_ble_eq_true rfl) rfl rfl (Nat.le_of_ble_eq_true rfl) d_X10_own_80 ?_
        cases h
        exact gb_iret d_X10_own_83 rfl ⟨rfl, rfl, rfl⟩
      · have h := gb_it hc h
        refine gb_pick (lv' := [(0, .ref 0)]) [0] rfl ?_
        exact t_X10_own_44 hS  _  h
  · have h := gb_it hc h
    refine gb_aload_n d_X10_own_10 rfl ?_
    refine gb_iconst (-1) d_X10_own_11 rfl ?_
    obtain ⟨r15, e16, h⟩ := gb_bd_e h
    refine gb_cVi (As := [.int (-1)]) (rest := []) m_X10_119 (t_X10_refuse (Γ := Γ) hS e16) (hS 0 _ rfl) rfl (Nat.le_of_ble_eq_true rfl) rfl rfl (Nat.le_of_ble_eq_true rfl) d_X10_own_12 ?_
    cases h
    exact gb_iret d_X10_own_15 rfl ⟨rfl, rfl, rfl⟩
-- X10_feed
noncomputable def f_X10_feed (sh : List gb_Sh) (g : gb_G) (x1 : Int32) (x2 : Int32) (x3 : Int32) (x4 : Int32) (x5 : Int32) : Option (gb_G × Int32) := if ((g.1 43 1) + 20) ≤ 400 then (gb_bd (f_X9_append sh g x1) (fun r1 => gb_bd (f_X9_append sh r1 x2) (fun r3 => gb_bd (f_X9_append sh r3 x3) (fun r5 => gb_bd (f_X9_append sh r5 x4) (fun r7 => gb_bd (f_X9_append sh r7 x5) (fun r9 => some (r9, (r9.1 43 1)))))))) else (some (g, (-1)))
set_option maxRecDepth 100000 in
set_option maxHeartbeats 4000000 in
theorem t_X10_feed {Γ : gb_X} {sh : List gb_Sh} {x1 : Int32} {x2 : Int32} {x3 : Int32} {x4 : Int32} {x5 : Int32} {out : gb_G × Int32} (hS : gb_S sh) {g : gb_G} (h : f_X10_feed sh g x1 x2 x3 x4 x5 = some out) : gb_C Γ M_X10_feed 1 0 0 sh g [.ref 0, .int x1, .int x2, .int x3, .int x4, .int x5] (gb_Ri sh out) := by
  refine gb_C.of rfl (Nat.le_of_ble_eq_true rfl) ?_
  refine gb_pick (lv' := [(0, .ref 0), (1, .int x1), (2, .int x2), (3, .int x3), (4, .int x4), (5, .int x5)]) [0, 1, 2, 3, 4, 5] rfl ?_
  unfold f_X10_feed at h
  refine gb_aload_n d_X10_feed_0 rfl ?_
  refine gb_getr (r := 43) f_X10_45 (hS 0 _ rfl) rfl d_X10_feed_1 ?_
  refine gb_geti f_X10_172 (hS 43 _ rfl) rfl d_X10_feed_4 ?_
  refine gb_bipush 20 d_X10_feed_7 rfl ?_
  refine gb_iadd d_X10_feed_9 ?_
  refine gb_sipush 400 d_X10_feed_10 rfl ?_
  refine gb_icmp_le 18 d_X10_feed_13 (by decide) (fun hc => ?_) (fun hc => ?_)
  · have h := gb_it hc h
    refine gb_aload_n d_X10_feed_18 rfl ?_
    refine gb_getr (r := 43) f_X10_45 (hS 0 _ rfl) rfl d_X10_feed_19 ?_
    refine gb_iload_n d_X10_feed_22 rfl ?_
    obtain ⟨r1, e2, h⟩ := gb_bd_e h
    refine gb_cVv (As := [.int x1]) (rest := []) m_X10_175 (t_X9_append (Γ := Γ) hS e2) (hS 43 _ rfl) rfl (Nat.le_of_ble_eq_true rfl) rfl rfl (Nat.le_of_ble_eq_true rfl) d_X10_feed_23 ?_
    refine gb_aload_n d_X10_feed_26 rfl ?_
    refine gb_getr (r := 43) f_X10_45 (hS 0 _ rfl) rfl d_X10_feed_27 ?_
    refine gb_iload_n d_X10_feed_30 rfl ?_
    obtain ⟨r3, e4, h⟩ := gb_bd_e h
    refine gb_cVv (As := [.int x2]) (rest := []) m_X10_175 (t_X9_append (Γ := Γ) hS e4) (hS 43 _ rfl) rfl (Nat.le_of_ble_eq_true rfl) rfl rfl (Nat.le_of_ble_eq_true rfl) d_X10_feed_31 ?_
    refine gb_aload_n d_X10_feed_34 rfl ?_
    refine gb_getr (r := 43) f_X10_45 (hS 0 _ rfl) rfl d_X10_feed_35 ?_
    refine gb_iload_n d_X10_feed_38 rfl ?_
    obtain ⟨r5, e6, h⟩ := gb_bd_e h
    refine gb_cVv (As := [.int x3]) (rest := []) m_X10_175 (t_X9_append (Γ := Γ) hS e6) (hS 43 _ rfl) rfl (Nat.le_of_ble_eq_true rfl) rfl rfl (Nat.le_of_ble_eq_true rfl) d_X10_feed_39 ?_
    refine gb_aload_n d_X10_feed_42 rfl ?_
    refine gb_getr (r := 43) f_X10_45 (hS 0 _ rfl) rfl d_X10_feed_43 ?_
    refine gb_iload d_X10_feed_46 rfl ?_
    obtain ⟨r7, e8, h⟩ := gb_bd_e h
    refine gb_cVv (As := [.int x4]) (rest := []) m_X10_175 (t_X9_append (Γ := Γ) hS e8) (hS 43 _ rfl) rfl (Nat.le_of_ble_eq_true rfl) rfl rfl (Nat.le_of_ble_eq_true rfl) d_X10_feed_48 ?_
    refine gb_aload_n d_X10_feed_51 rfl ?_
    refine gb_getr (r := 43) f_X10_45 (hS 0 _ rfl) rfl d_X10_feed_52 ?_
    refine gb_iload d_X10_feed_55 rfl ?_
    obtain ⟨r9, e10, h⟩ := gb_bd_e h
    refine gb_cVv (As := [.int x5]) (rest := []) m_X10_175 (t_X9_append (Γ := Γ) hS e10) (hS 43 _ rfl) rfl (Nat.le_of_ble_eq_true rfl) rfl rfl (Nat.le_of_ble_eq_true rfl) d_X10_feed_57 ?_
    refine gb_aload_n d_X10_feed_60 rfl ?_
    refine gb_getr (r := 43) f_X10_45 (hS 0 _ rfl) rfl d_X10_feed_61 ?_
    refine gb_geti f_X10_172 (hS 43 _ rfl) rfl d_X10_feed_64 ?_
    cases h
    exact gb_iret d_X10_feed_67 rfl ⟨rfl, rfl, rfl⟩
  · have h := gb_if hc h
    refine gb_iconst (-1) d_X10_feed_16 rfl ?_
    cases h
    exact gb_iret d_X10_feed_17 rfl ⟨rfl, rfl, rfl⟩
-- X10_end
noncomputable def f_X10_end (sh : List gb_Sh) (g : gb_G) (x1 : Int32) : Option (gb_G × Int32) := gb_bd (f_X10_within sh g x1 0 (g.1 43 1)) (fun r1 => if r1.2 = 0 then (some (r1.1, (-1))) else (gb_let (gb_pi r1.1 43 1 x1) (fun g3 => some (g3, x1))))
set_option maxRecDepth 100000 in
set_option maxHeartbeats 4000000 in
theorem t_X10_end {Γ : gb_X} {sh : List gb_Sh} {x1 : Int32} {out : gb_G × Int32} (hS : gb_S sh) {g : gb_G} (h : f_X10_end sh g x1 = some out) : gb_C Γ M_X10_end 1 0 0 sh g [.ref 0, .int x1] (gb_Ri sh out) := by
  refine gb_C.of rfl (Nat.le_of_ble_eq_true rfl) ?_
  refine gb_pick (lv' := [(0, .ref 0), (1, .int x1)]) [0, 1] rfl ?_
  unfold f_X10_end at h
  refine gb_iload_n d_X10_end_0 rfl ?_
  refine gb_iconst 0 d_X10_end_1 rfl ?_
  refine gb_aload_n d_X10_end_2 rfl ?_
  refine gb_getr (r := 43) f_X10_45 (hS 0 _ rfl) rfl d_X10_end_3 ?_
  refine gb_geti f_X10_172 (hS 43 _ rfl) rfl d_X10_end_6 ?_
  obtain ⟨r1, e2, h⟩ := gb_bd_e h
  refine gb_cSi (As := [.int x1, .int 0, .int (g.1 43 1)]) (rest := []) m_X10_115 (t_X10_within (Γ := Γ) hS e2) (Nat.le_of_ble_eq_true rfl) rfl rfl (Nat.le_of_ble_eq_true rfl) d_X10_end_9 ?_
  refine gb_if_ne 17 d_X10_end_12 (by decide) (fun hc => ?_) (fun hc => ?_)
  · have h := gb_if hc h
    refine gb_aload_n d_X10_end_17 rfl ?_
    refine gb_getr (r := 43) f_X10_45 (hS 0 _ rfl) rfl d_X10_end_18 ?_
    refine gb_iload_n d_X10_end_21 rfl ?_
    refine gb_puti f_X10_172 (fun h => nomatch h) (hS 43 _ rfl) rfl rfl rfl d_X10_end_22 ?_
    have h := gb_let_e h
    generalize gb_pi r1.1 43 1 x1 = g3 at h ⊢
    refine gb_iload_n d_X10_end_25 rfl ?_
    cases h
    exact gb_iret d_X10_end_26 rfl ⟨rfl, rfl, rfl⟩
  · have h := gb_it hc h
    refine gb_iconst (-1) d_X10_end_15 rfl ?_
    cases h
    exact gb_iret d_X10_end_16 rfl ⟨rfl, rfl, rfl⟩
