-- X4_moveAll
noncomputable def f_X4_moveAll_47 (sh : List gb_Sh) (b1 : Nat) : Nat → gb_G → Int32 → Option (gb_G)
  | 0, _, _ => none
  | n + 1, g, y3 => if 8 ≤ y3 then (gb_let (gb_pi g (b1 + 4) 0 ((g.1 (b1 + 4) 0) + 1)) (fun g3 => some g3)) else (gb_bd (f_X0_read sh g b1 y3 1) (fun r4 => gb_ck y3 8 (gb_bd (f_X10_nearest sh r4.1 (r4.2 + (r4.1.1 56 y3.toNatClampNeg)) 1 12) (fun r7 => gb_bd (f_X0_write sh r7.1 b1 y3 1 r7.2) (fun r9 => f_X4_moveAll_47 sh b1 n r9 (y3 + 1))))))
noncomputable def f_X4_moveAll_38 (sh : List gb_Sh) (b1 : Nat) (K7 : gb_G → Option Nat → Int32 → Option (gb_G)) (g : gb_G) (y2 : Option Nat) (y3 : Int32) (z0 : Int32) (z1 : Int32) : Option (gb_G) := gb_ck z1 8 (gb_let (gb_pi g 56 z1.toNatClampNeg z0) (fun g14 => K7 g14 y2 (y3 + 1)))
noncomputable def f_X4_moveAll_7 (sh : List gb_Sh) (b1 : Nat) : Nat → gb_G → Option Nat → Int32 → Option (gb_G)
  | 0, _, _, _ => none
  | n + 1, g, y2, y3 => if 8 ≤ y3 then (f_X4_moveAll_47 sh b1 gb_N g 0) else (gb_bd (f_X0_has sh g b1 y3) (fun r11 => if r11.2 = 0 then (f_X4_moveAll_38 sh b1 (fun w w0 w1 => f_X4_moveAll_7 sh b1 n w w0 w1) r11.1 y2 y3 0 y3) else (gb_bd (f_X4_tell sh r11.1 b1 y2 y3 0) (fun r15 => f_X4_moveAll_38 sh b1 (fun w w0 w1 => f_X4_moveAll_7 sh b1 n w w0 w1) r15.1 y2 y3 r15.2 y3))))
noncomputable def f_X4_moveAll (sh : List gb_Sh) (g : gb_G) (b1 : Nat) : Option (gb_G) := gb_bd (f_X0_lawInForce sh g b1) (fun r1 => f_X4_moveAll_7 sh b1 gb_N r1.1 r1.2 0)
set_option maxRecDepth 100000 in
set_option maxHeartbeats 4000000 in
theorem t_X4_moveAll_47 {Γ : gb_X} {sh : List gb_Sh} {b1 : Nat} {out : gb_G} (hS : gb_S sh) (h_b1 : gb_okX0 sh b1) : ∀ (n : Nat) (g : gb_G) (y3 : Int32), f_X4_moveAll_47 sh b1 n g y3 = some out → gb_J Γ M_X4_moveAll 3 (gb_Rv sh out) 0 0 sh g 47 [(0, .ref 54), (1, .ref b1), (3, .int y3)] [] := by
  intro n
  induction n with
  | zero => intro g y3 h; cases h
  | succ n ih =>
    intro g y3 h
    rw [f_X4_moveAll_47] at h
    refine gb_iload_n d_X4_moveAll_47 rfl ?_
    refine gb_bipush 8 d_X4_moveAll_48 rfl ?_
    refine gb_icmp_ge 84 d_X4_moveAll_50 (by decide) (fun hc => ?_) (fun hc => ?_)
    · have h := gb_it hc h
      refine gb_aload_n d_X4_moveAll_84 rfl ?_
      refine gb_getr (r := (b1 + 4)) f_X4_56 h_b1.1 rfl d_X4_moveAll_85 ?_
      refine gb_iconst 0 d_X4_moveAll_88 rfl ?_
      refine gb_dup2 d_X4_moveAll_89 rfl rfl ?_
      refine gb_iald_ 0 rfl h_b1.2.2.2.2.1 (by unfold vp_in; decide) d_X4_moveAll_90 ?_
      refine gb_iconst 1 d_X4_moveAll_91 rfl ?_
      refine gb_iadd d_X4_moveAll_92 ?_
      refine gb_iast_ 0 rfl h_b1.2.2.2.2.1 (by unfold vp_in; decide) d_X4_moveAll_93 ?_
      have h := gb_let_e h
      generalize gb_pi g (b1 + 4) 0 ((g.1 (b1 + 4) 0) + 1) = g3 at h ⊢
      cases h
      exact gb_vret d_X4_moveAll_94 rfl ⟨rfl, rfl, rfl⟩
    · have h := gb_if hc h
      refine gb_aload_n d_X4_moveAll_53 rfl ?_
      refine gb_iload_n d_X4_moveAll_54 rfl ?_
      refine gb_iconst 1 d_X4_moveAll_55 rfl ?_
      refine gb_aload_n d_X4_moveAll_56 rfl ?_
      refine gb_iload_n d_X4_moveAll_57 rfl ?_
      refine gb_iconst 1 d_X4_moveAll_58 rfl ?_
      obtain ⟨r4, e5, h⟩ := gb_bd_e h
      refine gb_cVi (As := [.int y3, .int 1]) (rest := [.int 1, .int y3, .ref b1]) m_X4_52 (t_X0_read (Γ := Γ) hS h_b1 e5) h_b1.1 rfl (Nat.le_of_ble_eq_true rfl) rfl rfl (Nat.le_of_ble_eq_true rfl) d_X4_moveAll_59 ?_
      refine gb_aload_n d_X4_moveAll_62 rfl ?_
      refine gb_getr (r := 56) f_X4_15 (hS 54 _ rfl) rfl d_X4_moveAll_63 ?_
      refine gb_iload_n d_X4_moveAll_66 rfl ?_
      obtain ⟨hi6, h⟩ := gb_ck_e h
      refine gb_iald_ y3.toNatClampNeg rfl (hS 56 _ rfl) hi6 d_X4_moveAll_67 ?_
      refine gb_iadd d_X4_moveAll_68 ?_
      refine gb_iconst 1 d_X4_moveAll_69 rfl ?_
      refine gb_bipush 12 d_X4_moveAll_70 rfl ?_
      obtain ⟨r7, e8, h⟩ := gb_bd_e h
      refine gb_cSNi (As := [.int (r4.2 + (r4.1.1 56 y3.toNatClampNeg)), .int 1, .int 12]) (rest := [.int 1, .int y3, .ref b1]) m_X4_42 (t_X10_nearest (Γ := Γ) hS e8) (Nat.le_of_ble_eq_true rfl) rfl rfl (Nat.le_of_ble_eq_true rfl) d_X4_moveAll_72 ?_
      obtain ⟨r9, e10, h⟩ := gb_bd_e h
      refine gb_cVv (As := [.int y3, .int 1, .int r7.2]) (rest := []) m_X4_71 (t_X0_write (Γ := Γ) hS h_b1 e10) h_b1.1 rfl (Nat.le_of_ble_eq_true rfl) rfl rfl (Nat.le_of_ble_eq_true rfl) d_X4_moveAll_75 ?_
      refine gb_iinc (y3 + 1) [(3, .int (y3 + 1)), (0, .ref 54), (1, .ref b1)] d_X4_moveAll_78 (Nat.le_of_ble_eq_true rfl) rfl rfl rfl ?_
      refine gb_goto 47 d_X4_moveAll_81 (by decide) ?_
      refine gb_pick (lv' := [(0, .ref 54), (1, .ref b1), (3, .int (y3 + 1))]) [1, 2, 0] rfl ?_
      exact ih _ (y3 + 1) h
set_option maxRecDepth 100000 in
set_option maxHeartbeats 4000000 in
theorem t_X4_moveAll_38 {Γ : gb_X} {sh : List gb_Sh} {b1 : Nat} {out : gb_G} (hS : gb_S sh) (h_b1 : gb_okX0 sh b1) {K7 : gb_G → Option Nat → Int32 → Option (gb_G)} (hK7 : ∀ (g : gb_G) (y2 : Option Nat) (y3 : Int32), K7 g y2 y3 = some out → gb_J Γ M_X4_moveAll 3 (gb_Rv sh out) 0 0 sh g 7 [(0, .ref 54), (1, .ref b1), (2, va_rf y2), (3, .int y3)] []) : ∀ (g : gb_G) (y2 : Option Nat) (y3 : Int32) (z0 : Int32) (z1 : Int32), f_X4_moveAll_38 sh b1 K7 g y2 y3 z0 z1 = some out → gb_J Γ M_X4_moveAll 3 (gb_Rv sh out) 0 0 sh g 38 [(0, .ref 54), (1, .ref b1), (2, va_rf y2), (3, .int y3)] [.int z0, .int z1, .ref 56] := by
  intro g y2 y3 z0 z1 h
  unfold f_X4_moveAll_38 at h
  obtain ⟨hi13, h⟩ := gb_ck_e h
  refine gb_iast_ z1.toNatClampNeg rfl (hS 56 _ rfl) hi13 d_X4_moveAll_38 ?_
  have h := gb_let_e h
  generalize gb_pi g 56 z1.toNatClampNeg z0 = g14 at h ⊢
  refine gb_iinc (y3 + 1) [(3, .int (y3 + 1)), (0, .ref 54), (1, .ref b1), (2, va_rf y2)] d_X4_moveAll_39 (Nat.le_of_ble_eq_true rfl) rfl rfl (by cases y2 <;> rfl) ?_
  refine gb_goto 7 d_X4_moveAll_42 (by decide) ?_
  refine gb_pick (lv' := [(0, .ref 54), (1, .ref b1), (2, va_rf y2), (3, .int (y3 + 1))]) [1, 2, 3, 0] rfl ?_
  exact hK7 _ y2 (y3 + 1) h
set_option maxRecDepth 100000 in
set_option maxHeartbeats 4000000 in
theorem t_X4_moveAll_7 {Γ : gb_X} {sh : List gb_Sh} {b1 : Nat} {out : gb_G} (hS : gb_S sh) (h_b1 : gb_okX0 sh b1) : ∀ (n : Nat) (g : gb_G) (y2 : Option Nat) (y3 : Int32), f_X4_moveAll_7 sh b1 n g y2 y3 = some out → gb_J Γ M_X4_moveAll 3 (gb_Rv sh out) 0 0 sh g 7 [(0, .ref 54), (1, .ref b1), (2, va_rf y2), (3, .int y3)] [] := by
  intro n
  induction n with
  | zero => intro g y2 y3 h; cases h
  | succ n ih =>
    intro g y2 y3 h
    rw [f_X4_moveAll_7] at h
    refine gb_iload_n d_X4_moveAll_7 rfl ?_
    refine gb_bipush 8 d_X4_moveAll_8 rfl ?_
    refine gb_icmp_ge 45 d_X4_moveAll_10 (by decide) (fun hc => ?_) (fun hc => ?_)
    · have h := gb_it hc h
      refine gb_iconst 0 d_X4_moveAll_45 rfl ?_
      refine gb_istore_n [(3, .int 0), (0, .ref 54), (1, .ref b1), (2, va_rf y2)] d_X4_moveAll_46 (Nat.le_of_ble_eq_true rfl) (by cases y2 <;> rfl) ?_
      refine gb_pick (lv' := [(0, .ref 54), (1, .ref b1), (3, .int 0)]) [1, 2, 0] rfl ?_
      exact t_X4_moveAll_47 hS h_b1  gb_N _ 0 h
    · have h := gb_if hc h
      refine gb_aload_n d_X4_moveAll_13 rfl ?_
      refine gb_getr (r := 56) f_X4_15 (hS 54 _ rfl) rfl d_X4_moveAll_14 ?_
      refine gb_iload_n d_X4_moveAll_17 rfl ?_
      refine gb_aload_n d_X4_moveAll_18 rfl ?_
      refine gb_iload_n d_X4_moveAll_19 rfl ?_
      obtain ⟨r11, e12, h⟩ := gb_bd_e h
      refine gb_cVi (As := [.int y3]) (rest := [.int y3, .ref 56]) m_X4_63 (t_X0_has (Γ := Γ) hS h_b1 e12) h_b1.1 rfl (Nat.le_of_ble_eq_true rfl) rfl rfl (Nat.le_of_ble_eq_true rfl) d_X4_moveAll_20 ?_
      refine gb_if_eq 37 d_X4_moveAll_23 (by decide) (fun hc => ?_) (fun hc => ?_)
      · have h := gb_it hc h
        refine gb_iconst 0 d_X4_moveAll_37 rfl ?_
        exact t_X4_moveAll_38 hS h_b1 (fun w w0 w1 hw => ih w w0 w1 hw) _ y2 y3 0 y3 h
      · have h := gb_if hc h
        refine gb_aload_n d_X4_moveAll_26 rfl ?_
        refine gb_aload_n d_X4_moveAll_27 rfl ?_
        refine gb_qload_n d_X4_moveAll_28 rfl ?_
        refine gb_iload_n d_X4_moveAll_29 rfl ?_
        refine gb_iconst 0 d_X4_moveAll_30 rfl ?_
        obtain ⟨r15, e16, h⟩ := gb_bd_e h
        refine gb_cVi (As := [.ref b1, va_rf y2, .int y3, .int 0]) (rest := [.int y3, .ref 56]) m_X4_67 (t_X4_tell (Γ := Γ) hS h_b1 e16) (hS 54 _ rfl) rfl (Nat.le_of_ble_eq_true rfl) rfl rfl (Nat.le_of_ble_eq_true rfl) d_X4_moveAll_31 ?_
        refine gb_goto 38 d_X4_moveAll_34 (by decide) ?_
        exact t_X4_moveAll_38 hS h_b1 (fun w w0 w1 hw => ih w w0 w1 hw) _ y2 y3 r15.2 y3 h
set_option maxRecDepth 100000 in
set_option maxHeartbeats 4000000 in
theorem t_X4_moveAll {Γ : gb_X} {sh : List gb_Sh} {b1 : Nat} {out : gb_G} (hS : gb_S sh) (h_b1 : gb_okX0 sh b1) {g : gb_G} (h : f_X4_moveAll sh g b1 = some out) : gb_C Γ M_X4_moveAll 3 0 0 sh g [.ref 54, .ref b1] (gb_Rv sh out) := by
  refine gb_C.of rfl (Nat.le_of_ble_eq_true rfl) ?_
  refine gb_pick (lv' := [(0, .ref 54), (1, .ref b1)]) [0, 1] rfl ?_
  unfold f_X4_moveAll at h
  refine gb_aload_n d_X4_moveAll_0 rfl ?_
  obtain ⟨r1, e2, h⟩ := gb_bd_e h
  refine gb_cVq (As := []) (rest := []) m_X4_59 (t_X0_lawInForce (Γ := Γ) hS h_b1 e2) h_b1.1 rfl (Nat.le_of_ble_eq_true rfl) rfl rfl (Nat.le_of_ble_eq_true rfl) d_X4_moveAll_1 ?_
  refine gb_qstore_n [(2, va_rf r1.2), (0, .ref 54), (1, .ref b1)] d_X4_moveAll_4 (Nat.le_of_ble_eq_true rfl) (by cases r1.2 <;> rfl) ?_
  refine gb_iconst 0 d_X4_moveAll_5 rfl ?_
  refine gb_istore_n [(3, .int 0), (2, va_rf r1.2), (0, .ref 54), (1, .ref b1)] d_X4_moveAll_6 (Nat.le_of_ble_eq_true rfl) (by cases r1.2 <;> rfl) ?_
  refine gb_pick (lv' := [(0, .ref 54), (1, .ref b1), (2, va_rf r1.2), (3, .int 0)]) [2, 3, 1, 0] rfl ?_
  exact t_X4_moveAll_7 hS h_b1  gb_N _ r1.2 0 h
-- X6_loadWares
noncomputable def f_X6_loadWares_95 (sh : List gb_Sh) (b1 : Nat) (K7 : gb_G → Option Nat → Int32 → Option (gb_G)) (g : gb_G) (y2 : Option Nat) (y3 : Int32) (z0 : Int32) (z1 : Int32) : Option (gb_G) := gb_ck z1 8 (gb_let (gb_pi g 68 z1.toNatClampNeg z0) (fun g14 => K7 g14 y2 (y3 + 1)))
noncomputable def f_X6_loadWares_77 (sh : List gb_Sh) (b1 : Nat) (K7 : gb_G → Option Nat → Int32 → Option (gb_G)) (g : gb_G) (y2 : Option Nat) (y3 : Int32) (z0 : Int32) : Option (gb_G) := if z0 = 0 then (f_X6_loadWares_95 sh b1 K7 g y2 y3 0 y3) else (f_X6_loadWares_95 sh b1 K7 g y2 y3 9 y3)
noncomputable def f_X6_loadWares_7 (sh : List gb_Sh) (b1 : Nat) : Nat → gb_G → Option Nat → Int32 → Option (gb_G)
  | 0, _, _, _ => none
  | n + 1, g, y2, y3 => if (g.1 b1 0) ≤ y3 then (some g) else (if 8 ≤ y3 then (some g) else (gb_bd (f_X0_read sh g b1 y3 1) (fun r3 => gb_ck y3 8 (gb_let (gb_pi r3.1 66 y3.toNatClampNeg r3.2) (fun g6 => gb_bd (f_X4_tell sh g6 b1 y2 y3 2) (fun r7 => gb_ck y3 8 (gb_let (gb_pi r7.1 67 y3.toNatClampNeg r7.2) (fun g10 => gb_bd (f_X0_lacks sh g10 b1 y3) (fun r11 => if r11.2 = 0 then (gb_bd (f_X4_tell sh r11.1 b1 y2 y3 3) (fun r15 => if r15.2 = 0 then (f_X6_loadWares_77 sh b1 (fun w w0 w1 => f_X6_loadWares_7 sh b1 n w w0 w1) r15.1 y2 y3 1) else (f_X6_loadWares_77 sh b1 (fun w w0 w1 => f_X6_loadWares_7 sh b1 n w w0 w1) r15.1 y2 y3 0))) else (f_X6_loadWares_77 sh b1 (fun w w0 w1 => f_X6_loadWares_7 sh b1 n w w0 w1) r11.1 y2 y3 0))))))))))
noncomputable def f_X6_loadWares (sh : List gb_Sh) (g : gb_G) (b1 : Nat) : Option (gb_G) := gb_bd (f_X0_lawInForce sh g b1) (fun r1 => f_X6_loadWares_7 sh b1 gb_N r1.1 r1.2 0)
set_option maxRecDepth 100000 in
set_option maxHeartbeats 4000000 in
theorem t_X6_loadWares_95 {Γ : gb_X} {sh : List gb_Sh} {b1 : Nat} {out : gb_G} (hS : gb_S sh) (h_b1 : gb_okX0 sh b1) {K7 : gb_G → Option Nat → Int32 → Option (gb_G)} (hK7 : ∀ (g : gb_G) (y2 : Option Nat) (y3 : Int32), K7 g y2 y3 = some out → gb_J Γ M_X6_loadWares 3 (gb_Rv sh out) 0 0 sh g 7 [(0, .ref 63), (1, .ref b1), (2, va_rf y2), (3, .int y3)] []) : ∀ (g : gb_G) (y2 : Option Nat) (y3 : Int32) (z0 : Int32) (z1 : Int32), f_X6_loadWares_95 sh b1 K7 g y2 y3 z0 z1 = some out → gb_J Γ M_X6_loadWares 3 (gb_Rv sh out) 0 0 sh g 95 [(0, .ref 63), (1, .ref b1), (2, va_rf y2), (3, .int y3)] [.int z0, .int z1, .ref 68] := by
  intro g y2 y3 z0 z1 h
  unfold f_X6_loadWares_95 at h
  obtain ⟨hi13, h⟩ := gb_ck_e h
  refine gb_iast_ z1.toNatClampNeg rfl (hS 68 _ rfl) hi13 d_X6_loadWares_95 ?_
  have h := gb_let_e h
  generalize gb_pi g 68 z1.toNatClampNeg z0 = g14 at h ⊢
  refine gb_iinc (y3 + 1) [(3, .int (y3 + 1)), (0, .ref 63), (1, .ref b1), (2, va_rf y2)] d_X6_loadWares_96 (Nat.le_of_ble_eq_true rfl) rfl rfl (by cases y2 <;> rfl) ?_
  refine gb_goto 7 d_X6_loadWares_99 (by decide) ?_
  refine gb_pick (lv' := [(0, .ref 63), (1, .ref b1), (2, va_rf y2), (3, .int (y3 + 1))]) [1, 2, 3, 0] rfl ?_
  exact hK7 _ y2 (y3 + 1) h
set_option maxRecDepth 100000 in
set_option maxHeartbeats 4000000 in
theorem t_X6_loadWares_77 {Γ : gb_X} {sh : List gb_Sh} {b1 : Nat} {out : gb_G} (hS : gb_S sh) (h_b1 : gb_okX0 sh b1) {K7 : gb_G → Option Nat → Int32 → Option (gb_G)} (hK7 : ∀ (g : gb_G) (y2 : Option Nat) (y3 : Int32), K7 g y2 y3 = some out → gb_J Γ M_X6_loadWares 3 (gb_Rv sh out) 0 0 sh g 7 [(0, .ref 63), (1, .ref b1), (2, va_rf y2), (3, .int y3)] []) : ∀ (g : gb_G) (y2 : Option Nat) (y3 : Int32) (z0 : Int32), f_X6_loadWares_77 sh b1 K7 g y2 y3 z0 = some out → gb_J Γ M_X6_loadWares 3 (gb_Rv sh out) 0 0 sh g 77 [(0, .ref 63), (1, .ref b1), (2, va_rf y2), (3, .int y3)] [.int z0] := by
  intro g y2 y3 z0 h
  unfold f_X6_loadWares_77 at h
  refine gb_istore [(4, .int z0), (0, .ref 63), (1, .ref b1), (2, va_rf y2), (3, .int y3)] d_X6_loadWares_77 (Nat.le_of_ble_eq_true rfl) (by cases y2 <;> rfl) ?_
  refine gb_aload_n d_X6_loadWares_79 rfl ?_
  refine gb_getr (r := 68) f_X6_24 (hS 63 _ rfl) rfl d_X6_loadWares_80 ?_
  refine gb_iload_n d_X6_loadWares_83 rfl ?_
  refine gb_iload d_X6_loadWares_84 rfl ?_
  refine gb_if_eq 94 d_X6_loadWares_86 (by decide) (fun hc => ?_) (fun hc => ?_)
  · have h := gb_it hc h
    refine gb_iconst 0 d_X6_loadWares_94 rfl ?_
    refine gb_pick (lv' := [(0, .ref 63), (1, .ref b1), (2, va_rf y2), (3, .int y3)]) [1, 2, 3, 4] rfl ?_
    exact t_X6_loadWares_95 hS h_b1 hK7 _ y2 y3 0 y3 h
  · have h := gb_if hc h
    refine gb_bipush 9 d_X6_loadWares_89 rfl ?_
    refine gb_goto 95 d_X6_loadWares_91 (by decide) ?_
    refine gb_pick (lv' := [(0, .ref 63), (1, .ref b1), (2, va_rf y2), (3, .int y3)]) [1, 2, 3, 4] rfl ?_
    exact t_X6_loadWares_95 hS h_b1 hK7 _ y2 y3 9 y3 h
set_option maxRecDepth 100000 in
set_option maxHeartbeats 4000000 in
theorem t_X6_loadWares_7 {Γ : gb_X} {sh : List gb_Sh} {b1 : Nat} {out : gb_G} (hS : gb_S sh) (h_b1 : gb_okX0 sh b1) : ∀ (n : Nat) (g : gb_G) (y2 : Option Nat) (y3 : Int32), f_X6_loadWares_7 sh b1 n g y2 y3 = some out → gb_J Γ M_X6_loadWares 3 (gb_Rv sh out) 0 0 sh g 7 [(0, .ref 63), (1, .ref b1), (2, va_rf y2), (3, .int y3)] [] := by
  intro n
  induction n with
  | zero => intro g y2 y3 h; cases h
  | succ n ih =>
    intro g y2 y3 h
    rw [f_X6_loadWares_7] at h
    refine gb_iload_n d_X6_loadWares_7 rfl ?_
    refine gb_aload_n d_X6_loadWares_8 rfl ?_
    refine gb_geti f_X6_71 h_b1.1 rfl d_X6_loadWares_9 ?_
    refine gb_icmp_ge 102 d_X6_loadWares_12 (by decide) (fun hc => ?_) (fun hc => ?_)
    · have h := gb_it hc h
      cases h
      exact gb_vret d_X6_loadWares_102 rfl ⟨rfl, rfl, rfl⟩
    · have h := gb_if hc h
      refine gb_iload_n d_X6_loadWares_15 rfl ?_
      refine gb_bipush 8 d_X6_loadWares_16 rfl ?_
      refine gb_icmp_ge 102 d_X6_loadWares_18 (by decide) (fun hc => ?_) (fun hc => ?_)
      · have h := gb_it hc h
        cases h
        exact gb_vret d_X6_loadWares_102 rfl ⟨rfl, rfl, rfl⟩
      · have h := gb_if hc h
        refine gb_aload_n d_X6_loadWares_21 rfl ?_
        refine gb_getr (r := 66) f_X6_18 (hS 63 _ rfl) rfl d_X6_loadWares_22 ?_
        refine gb_iload_n d_X6_loadWares_25 rfl ?_
        refine gb_aload_n d_X6_loadWares_26 rfl ?_
        refine gb_iload_n d_X6_loadWares_27 rfl ?_
        refine gb_iconst 1 d_X6_loadWares_28 rfl ?_
        obtain ⟨r3, e4, h⟩ := gb_bd_e h
        refine gb_cVi (As := [.int y3, .int 1]) (rest := [.int y3, .ref 66]) m_X6_74 (t_X0_read (Γ := Γ) hS h_b1 e4) h_b1.1 rfl (Nat.le_of_ble_eq_true rfl) rfl rfl (Nat.le_of_ble_eq_true rfl) d_X6_loadWares_29 ?_
        obtain ⟨hi5, h⟩ := gb_ck_e h
        refine gb_iast_ y3.toNatClampNeg rfl (hS 66 _ rfl) hi5 d_X6_loadWares_32 ?_
        have h := gb_let_e h
        generalize gb_pi r3.1 66 y3.toNatClampNeg r3.2 = g6 at h ⊢
        refine gb_aload_n d_X6_loadWares_33 rfl ?_
        refine gb_getr (r := 67) f_X6_21 (hS 63 _ rfl) rfl d_X6_loadWares_34 ?_
        refine gb_iload_n d_X6_loadWares_37 rfl ?_
        refine gb_aload_n d_X6_loadWares_38 rfl ?_
        refine gb_getr (r := 54) f_X6_57 (hS 63 _ rfl) rfl d_X6_loadWares_39 ?_
        refine gb_aload_n d_X6_loadWares_42 rfl ?_
        refine gb_qload_n d_X6_loadWares_43 rfl ?_
        refine gb_iload_n d_X6_loadWares_44 rfl ?_
        refine gb_iconst 2 d_X6_loadWares_45 rfl ?_
        obtain ⟨r7, e8, h⟩ := gb_bd_e h
        refine gb_cVi (As := [.ref b1, va_rf y2, .int y3, .int 2]) (rest := [.int y3, .ref 67]) m_X6_78 (t_X4_tell (Γ := Γ) hS h_b1 e8) (hS 54 _ rfl) rfl (Nat.le_of_ble_eq_true rfl) rfl rfl (Nat.le_of_ble_eq_true rfl) d_X6_loadWares_46 ?_
        obtain ⟨hi9, h⟩ := gb_ck_e h
        refine gb_iast_ y3.toNatClampNeg rfl (hS 67 _ rfl) hi9 d_X6_loadWares_49 ?_
        have h := gb_let_e h
        generalize gb_pi r7.1 67 y3.toNatClampNeg r7.2 = g10 at h ⊢
        refine gb_aload_n d_X6_loadWares_50 rfl ?_
        refine gb_iload_n d_X6_loadWares_51 rfl ?_
        obtain ⟨r11, e12, h⟩ := gb_bd_e h
        refine gb_cVi (As := [.int y3]) (rest := []) m_X6_84 (t_X0_lacks (Γ := Γ) hS h_b1 e12) h_b1.1 rfl (Nat.le_of_ble_eq_true rfl) rfl rfl (Nat.le_of_ble_eq_true rfl) d_X6_loadWares_52 ?_
        refine gb_if_ne 76 d_X6_loadWares_55 (by decide) (fun hc => ?_) (fun hc => ?_)
        · have h := gb_if hc h
          refine gb_iconst 0 d_X6_loadWares_76 rfl ?_
          exact t_X6_loadWares_77 hS h_b1 (fun w w0 w1 hw => ih w w0 w1 hw) _ y2 y3 0 h
        · have h := gb_it hc h
          refine gb_aload_n d_X6_loadWares_58 rfl ?_
          refine gb_getr (r := 54) f_X6_57 (hS 63 _ rfl) rfl d_X6_loadWares_59 ?_
          refine gb_aload_n d_X6_loadWares_62 rfl ?_
          refine gb_qload_n d_X6_loadWares_63 rfl ?_
          refine gb_iload_n d_X6_loadWares_64 rfl ?_
          refine gb_iconst 3 d_X6_loadWares_65 rfl ?_
          obtain ⟨r15, e16, h⟩ := gb_bd_e h
          refine gb_cVi (As := [.ref b1, va_rf y2, .int y3, .int 3]) (rest := []) m_X6_78 (t_X4_tell (Γ := Γ) hS h_b1 e16) (hS 54 _ rfl) rfl (Nat.le_of_ble_eq_true rfl) rfl rfl (Nat.le_of_ble_eq_true rfl) d_X6_loadWares_66 ?_
          refine gb_if_ne 76 d_X6_loadWares_69 (by decide) (fun hc => ?_) (fun hc => ?_)
          · have h := gb_if hc h
            refine gb_iconst 0 d_X6_loadWares_76 rfl ?_
            exact t_X6_loadWares_77 hS h_b1 (fun w w0 w1 hw => ih w w0 w1 hw) _ y2 y3 0 h
          · have h := gb_it hc h
            refine gb_iconst 1 d_X6_loadWares_72 rfl ?_
            refine gb_goto 77 d_X6_loadWares_73 (by decide) ?_
            exact t_X6_loadWares_77 hS h_b1 (fun w w0 w1 hw => ih w w0 w1 hw) _ y2 y3 1 h
set_option maxRecDepth 100000 in
set_option maxHeartbeats 4000000 in
theorem t_X6_loadWares {Γ : gb_X} {sh : List gb_Sh} {b1 : Nat} {out : gb_G} (hS : gb_S sh) (h_b1 : gb_okX0 sh b1) {g : gb_G} (h : f_X6_loadWares sh g b1 = some out) : gb_C Γ M_X6_loadWares 3 0 0 sh g [.ref 63, .ref b1] (gb_Rv sh out) := by
  refine gb_C.of rfl (Nat.le_of_ble_eq_true rfl) ?_
  refine gb_pick (lv' := [(0, .ref 63), (1, .ref b1)]) [0, 1] rfl ?_
  unfold f_X6_loadWares at h
  refine gb_aload_n d_X6_loadWares_0 rfl ?_
  obtain ⟨r1, e2, h⟩ := gb_bd_e h
  refine gb_cVq (As := []) (rest := []) m_X6_65 (t_X0_lawInForce (Γ := Γ) hS h_b1 e2) h_b1.1 rfl (Nat.le_of_ble_eq_true rfl) rfl rfl (Nat.le_of_ble_eq_true rfl) d_X6_loadWares_1 ?_
  refine gb_qstore_n [(2, va_rf r1.2), (0, .ref 63), (1, .ref b1)] d_X6_loadWares_4 (Nat.le_of_ble_eq_true rfl) (by cases r1.2 <;> rfl) ?_
  refine gb_iconst 0 d_X6_loadWares_5 rfl ?_
  refine gb_istore_n [(3, .int 0), (2, va_rf r1.2), (0, .ref 63), (1, .ref b1)] d_X6_loadWares_6 (Nat.le_of_ble_eq_true rfl) (by cases r1.2 <;> rfl) ?_
  refine gb_pick (lv' := [(0, .ref 63), (1, .ref b1), (2, va_rf r1.2), (3, .int 0)]) [2, 3, 1, 0] rfl ?_
  exact t_X6_loadWares_7 hS h_b1  gb_N _ r1.2 0 h
-- X6_costWith
noncomputable def f_X6_costWith (sh : List gb_Sh) (g : gb_G) (x1 : Int32) (x2 : Int32) (x3 : Int32) : Option (gb_G × Int32) := gb_ck x1 8 (gb_bd (f_X10_nearest sh g (x2 - (x3 * (g.1 67 x1.toNatClampNeg))) 0 99) (fun r2 => gb_ck x1 8 (gb_ck (((x1 + 1) * 100) + r2.2) 900 (gb_bd (f_J9_min_7cf53 sh r2.1 1000000 ((x3 * (r2.1.1 66 x1.toNatClampNeg)) + (r2.1.1 64 ((((x1 + 1) * 100) + r2.2).toNatClampNeg)))) (fun r6 => some (r6.1, r6.2))))))
set_option maxRecDepth 100000 in
set_option maxHeartbeats 4000000 in
theorem t_X6_costWith {Γ : gb_X} {sh : List gb_Sh} {x1 : Int32} {x2 : Int32} {x3 : Int32} {out : gb_G × Int32} (hS : gb_S sh) {g : gb_G} (h : f_X6_costWith sh g x1 x2 x3 = some out) : gb_C Γ M_X6_costWith 2 0 0 sh g [.ref 63, .int x1, .int x2, .int x3] (gb_Ri sh out) := by
  refine gb_C.of rfl (Nat.le_of_ble_eq_true rfl) ?_
  refine gb_pick (lv' := [(0, .ref 63), (1, .int x1), (2, .int x2), (3, .int x3)]) [0, 1, 2, 3] rfl ?_
  unfold f_X6_costWith at h
  refine gb_iload_n d_X6_costWith_0 rfl ?_
  refine gb_iload_n d_X6_costWith_1 rfl ?_
  refine gb_aload_n d_X6_costWith_2 rfl ?_
  refine gb_getr (r := 67) f_X6_21 (hS 63 _ rfl) rfl d_X6_costWith_3 ?_
  refine gb_iload_n d_X6_costWith_6 rfl ?_
  obtain ⟨hi1, h⟩ := gb_ck_e h
  refine gb_iald_ x1.toNatClampNeg rfl (hS 67 _ rfl) hi1 d_X6_costWith_7 ?_
  refine gb_imul d_X6_costWith_8 ?_
  refine gb_isub d_X6_costWith_9 ?_
  refine gb_iconst 0 d_X6_costWith_10 rfl ?_
  refine gb_bipush 99 d_X6_costWith_11 rfl ?_
  obtain ⟨r2, e3, h⟩ := gb_bd_e h
  refine gb_cSNi (As := [.int (x2 - (x3 * (g.1 67 x1.toNatClampNeg))), .int 0, .int 99]) (rest := []) m_X6_97 (t_X10_nearest (Γ := Γ) hS e3) (Nat.le_of_ble_eq_true rfl) rfl rfl (Nat.le_of_ble_eq_true rfl) d_X6_costWith_13 ?_
  refine gb_istore [(4, .int r2.2), (0, .ref 63), (1, .int x1), (2, .int x2), (3, .int x3)] d_X6_costWith_16 (Nat.le_of_ble_eq_true rfl) rfl ?_
  refine gb_ldc 1000000 k_X6_101 d_X6_costWith_18 ?_
  refine gb_iload_n d_X6_costWith_20 rfl ?_
  refine gb_aload_n d_X6_costWith_21 rfl ?_
  refine gb_getr (r := 66) f_X6_18 (hS 63 _ rfl) rfl d_X6_costWith_22 ?_
  refine gb_iload_n d_X6_costWith_25 rfl ?_
  obtain ⟨hi4, h⟩ := gb_ck_e h
  refine gb_iald_ x1.toNatClampNeg rfl (hS 66 _ rfl) hi4 d_X6_costWith_26 ?_
  refine gb_imul d_X6_costWith_27 ?_
  refine gb_aload_n d_X6_costWith_28 rfl ?_
  refine gb_getr (r := 64) f_X6_11 (hS 63 _ rfl) rfl d_X6_costWith_29 ?_
  refine gb_iload_n d_X6_costWith_32 rfl ?_
  refine gb_iconst 1 d_X6_costWith_33 rfl ?_
  refine gb_iadd d_X6_costWith_34 ?_
  refine gb_bipush 100 d_X6_costWith_35 rfl ?_
  refine gb_imul d_X6_costWith_37 ?_
  refine gb_iload d_X6_costWith_38 rfl ?_
  refine gb_iadd d_X6_costWith_40 ?_
  obtain ⟨hi5, h⟩ := gb_ck_e h
  refine gb_iald_ ((((x1 + 1) * 100) + r2.2).toNatClampNeg) rfl (hS 64 _ rfl) hi5 d_X6_costWith_41 ?_
  refine gb_iadd d_X6_costWith_42 ?_
  obtain ⟨r6, e7, h⟩ := gb_bd_e h
  refine gb_cSi (As := [.int 1000000, .int ((x3 * (r2.1.1 66 x1.toNatClampNeg)) + (r2.1.1 64 ((((x1 + 1) * 100) + r2.2).toNatClampNeg)))]) (rest := []) m_X6_92 (t_J9_min_7cf53 (Γ := Γ) hS e7) (Nat.le_of_ble_eq_true rfl) rfl rfl (Nat.le_of_ble_eq_true rfl) d_X6_costWith_43 ?_
  cases h
  exact gb_iret d_X6_costWith_46 rfl ⟨rfl, rfl, rfl⟩
-- X6_bestAmount
noncomputable def f_X6_bestAmount_64 (sh : List gb_Sh) (K14 : gb_G → Int32 → Int32 → Int32 → Int32 → Int32 → Option (gb_G × Int32)) (g : gb_G) (y1 : Int32) (y2 : Int32) (y3 : Int32) (y4 : Int32) (y5 : Int32) : Option (gb_G × Int32) := K14 g y1 y2 y3 y4 (y5 + 1)
noncomputable def f_X6_bestAmount_14 (sh : List gb_Sh) : Nat → gb_G → Int32 → Int32 → Int32 → Int32 → Int32 → Option (gb_G × Int32)
  | 0, _, _, _, _, _, _ => none
  | n + 1, g, y1, y2, y3, y4, y5 => gb_ck y1 8 (if (g.1 68 y1.toNatClampNeg) < y5 then (some (g, y3)) else (gb_ck y1 8 (if y2 ≤ ((y5 - 1) * (g.1 67 y1.toNatClampNeg)) then (some (g, y3)) else (gb_bd (f_X6_costWith sh g y1 y2 y5) (fun r5 => if y4 ≤ r5.2 then (f_X6_bestAmount_64 sh (fun w w0 w1 w2 w3 w4 => f_X6_bestAmount_14 sh n w w0 w1 w2 w3 w4) r5.1 y1 y2 y3 y4 y5) else (f_X6_bestAmount_64 sh (fun w w0 w1 w2 w3 w4 => f_X6_bestAmount_14 sh n w w0 w1 w2 w3 w4) r5.1 y1 y2 y5 r5.2 y5))))))
noncomputable def f_X6_bestAmount (sh : List gb_Sh) (g : gb_G) (x1 : Int32) (x2 : Int32) : Option (gb_G × Int32) := gb_bd (f_X6_costWith sh g x1 x2 0) (fun r1 => f_X6_bestAmount_14 sh gb_N r1.1 x1 x2 0 r1.2 1)
set_option maxRecDepth 100000 in
set_option maxHeartbeats 4000000 in
theorem t_X6_bestAmount_64 {Γ : gb_X} {sh : List gb_Sh} {out : gb_G × Int32} (hS : gb_S sh) {K14 : gb_G → Int32 → Int32 → Int32 → Int32 → Int32 → Option (gb_G × Int32)} (hK14 : ∀ (g : gb_G) (y1 : Int32) (y2 : Int32) (y3 : Int32) (y4 : Int32) (y5 : Int32), K14 g y1 y2 y3 y4 y5 = some out → gb_J Γ M_X6_bestAmount 3 (gb_Ri sh out) 0 0 sh g 14 [(0, .ref 63), (1, .int y1), (2, .int y2), (3, .int y3), (4, .int y4), (5, .int y5)] []) : ∀ (g : gb_G) (y1 : Int32) (y2 : Int32) (y3 : Int32) (y4 : Int32) (y5 : Int32), f_X6_bestAmount_64 sh K14 g y1 y2 y3 y4 y5 = some out → gb_J Γ M_X6_bestAmount 3 (gb_Ri sh out) 0 0 sh g 64 [(0, .ref 63), (1, .int y1), (2, .int y2), (3, .int y3), (4, .int y4), (5, .int y5)] [] := by
  intro g y1 y2 y3 y4 y5 h
  unfold f_X6_bestAmount_64 at h
  refine gb_iinc (y5 + 1) [(5, .int (y5 + 1)), (0, .ref 63), (1, .int y1), (2, .int y2), (3, .int y3), (4, .int y4)] d_X6_bestAmount_64 (Nat.le_of_ble_eq_true rfl) rfl rfl rfl ?_
  refine gb_goto 14 d_X6_bestAmount_67 (by decide) ?_
  refine gb_pick (lv' := [(0, .ref 63), (1, .int y1), (2, .int y2), (3, .int y3), (4, .int y4), (5, .int (y5 + 1))]) [1, 2, 3, 4, 5, 0] rfl ?_
  exact hK14 _ y1 y2 y3 y4 (y5 + 1) h
set_option maxRecDepth 100000 in
set_option maxHeartbeats 4000000 in
theorem t_X6_bestAmount_14 {Γ : gb_X} {sh : List gb_Sh} {out : gb_G × Int32} (hS : gb_S sh) : ∀ (n : Nat) (g : gb_G) (y1 : Int32) (y2 : Int32) (y3 : Int32) (y4 : Int32) (y5 : Int32), f_X6_bestAmount_14 sh n g y1 y2 y3 y4 y5 = some out → gb_J Γ M_X6_bestAmount 3 (gb_Ri sh out) 0 0 sh g 14 [(0, .ref 63), (1, .int y1), (2, .int y2), (3, .int y3), (4, .int y4), (5, .int y5)] [] := by
  intro n
  induction n with
  | zero => intro g y1 y2 y3 y4 y5 h; cases h
  | succ n ih =>
    intro g y1 y2 y3 y4 y5 h
    rw [f_X6_bestAmount_14] at h
    refine gb_iload d_X6_bestAmount_14 rfl ?_
    refine gb_aload_n d_X6_bestAmount_16 rfl ?_
    refine gb_getr (r := 68) f_X6_24 (hS 63 _ rfl) rfl d_X6_bestAmount_17 ?_
    refine gb_iload_n d_X6_bestAmount_20 rfl ?_
    obtain ⟨hi3, h⟩ := gb_ck_e h
    refine gb_iald_ y1.toNatClampNeg rfl (hS 68 _ rfl) hi3 d_X6_bestAmount_21 ?_
    refine gb_icmp_gt 70 d_X6_bestAmount_22 (by decide) (fun hc => ?_) (fun hc => ?_)
    · have h := gb_it hc h
      refine gb_iload_n d_X6_bestAmount_70 rfl ?_
      cases h
      exact gb_iret d_X6_bestAmount_71 rfl ⟨rfl, rfl, rfl⟩
    · have h := gb_if hc h
      refine gb_iload d_X6_bestAmount_25 rfl ?_
      refine gb_iconst 1 d_X6_bestAmount_27 rfl ?_
      refine gb_isub d_X6_bestAmount_28 ?_
      refine gb_aload_n d_X6_bestAmount_29 rfl ?_
      refine gb_getr (r := 67) f_X6_21 (hS 63 _ rfl) rfl d_X6_bestAmount_30 ?_
      refine gb_iload_n d_X6_bestAmount_33 rfl ?_
      obtain ⟨hi4, h⟩ := gb_ck_e h
      refine gb_iald_ y1.toNatClampNeg rfl (hS 67 _ rfl) hi4 d_X6_bestAmount_34 ?_
      refine gb_imul d_X6_bestAmount_35 ?_
      refine gb_iload_n d_X6_bestAmount_36 rfl ?_
      refine gb_icmp_ge 70 d_X6_bestAmount_37 (by decide) (fun hc => ?_) (fun hc => ?_)
      · have h := gb_it hc h
        refine gb_iload_n d_X6_bestAmount_70 rfl ?_
        cases h
        exact gb_iret d_X6_bestAmount_71 rfl ⟨rfl, rfl, rfl⟩
      · have h := gb_if hc h
        refine gb_aload_n d_X6_bestAmount_40 rfl ?_
        refine gb_iload_n d_X6_bestAmount_41 rfl ?_
        refine gb_iload_n d_X6_bestAmount_42 rfl ?_
        refine gb_iload d_X6_bestAmount_43 rfl ?_
        obtain ⟨r5, e6, h⟩ := gb_bd_e h
        refine gb_cVi (As := [.int y1, .int y2, .int y5]) (rest := []) m_X6_105 (t_X6_costWith (Γ := Γ) hS e6) (hS 63 _ rfl) rfl (Nat.le_of_ble_eq_true rfl) rfl rfl (Nat.le_of_ble_eq_true rfl) d_X6_bestAmount_45 ?_
        refine gb_istore [(6, .int r5.2), (0, .ref 63), (1, .int y1), (2, .int y2), (3, .int y3), (4, .int y4), (5, .int y5)] d_X6_bestAmount_48 (Nat.le_of_ble_eq_true rfl) rfl ?_
        refine gb_iload d_X6_bestAmount_50 rfl ?_
        refine gb_iload d_X6_bestAmount_52 rfl ?_
        refine gb_icmp_ge 64 d_X6_bestAmount_54 (by decide) (fun hc => ?_) (fun hc => ?_)
        · have h := gb_it hc h
          refine gb_pick (lv' := [(0, .ref 63), (1, .int y1), (2, .int y2), (3, .int y3), (4, .int y4), (5, .int y5)]) [1, 2, 3, 4, 5, 6] rfl ?_
          exact t_X6_bestAmount_64 hS (fun w w0 w1 w2 w3 w4 hw => ih w w0 w1 w2 w3 w4 hw) _ y1 y2 y3 y4 y5 h
        · have h := gb_if hc h
          refine gb_iload d_X6_bestAmount_57 rfl ?_
          refine gb_istore_n [(3, .int y5), (6, .int r5.2), (0, .ref 63), (1, .int y1), (2, .int y2), (4, .int y4), (5, .int y5)] d_X6_bestAmount_59 (Nat.le_of_ble_eq_true rfl) rfl ?_
          refine gb_iload d_X6_bestAmount_60 rfl ?_
          refine gb_istore [(4, .int r5.2), (3, .int y5), (6, .int r5.2), (0, .ref 63), (1, .int y1), (2, .int y2), (5, .int y5)] d_X6_bestAmount_62 (Nat.le_of_ble_eq_true rfl) rfl ?_
          refine gb_pick (lv' := [(0, .ref 63), (1, .int y1), (2, .int y2), (3, .int y5), (4, .int r5.2), (5, .int y5)]) [3, 4, 5, 1, 0, 6] rfl ?_
          exact t_X6_bestAmount_64 hS (fun w w0 w1 w2 w3 w4 hw => ih w w0 w1 w2 w3 w4 hw) _ y1 y2 y5 r5.2 y5 h
set_option maxRecDepth 100000 in
set_option maxHeartbeats 4000000 in
theorem t_X6_bestAmount {Γ : gb_X} {sh : List gb_Sh} {x1 : Int32} {x2 : Int32} {out : gb_G × Int32} (hS : gb_S sh) {g : gb_G} (h : f_X6_bestAmount sh g x1 x2 = some out) : gb_C Γ M_X6_bestAmount 3 0 0 sh g [.ref 63, .int x1, .int x2] (gb_Ri sh out) := by
  refine gb_C.of rfl (Nat.le_of_ble_eq_true rfl) ?_
  refine gb_pick (lv' := [(0, .ref 63), (1, .int x1), (2, .int x2)]) [0, 1, 2] rfl ?_
  unfold f_X6_bestAmount at h
  refine gb_iconst 0 d_X6_bestAmount_0 rfl ?_
  refine gb_istore_n [(3, .int 0), (0, .ref 63), (1, .int x1), (2, .int x2)] d_X6_bestAmount_1 (Nat.le_of_ble_eq_true rfl) rfl ?_
  refine gb_aload_n d_X6_bestAmount_2 rfl ?_
  refine gb_iload_n d_X6_bestAmount_3 rfl ?_
  refine gb_iload_n d_X6_bestAmount_4 rfl ?_
  refine gb_iconst 0 d_X6_bestAmount_5 rfl ?_
  obtain ⟨r1, e2, h⟩ := gb_bd_e h
  refine gb_cVi (As := [.int x1, .int x2, .int 0]) (rest := []) m_X6_105 (t_X6_costWith (Γ := Γ) hS e2) (hS 63 _ rfl) rfl (Nat.le_of_ble_eq_true rfl) rfl rfl (Nat.le_of_ble_eq_true rfl) d_X6_bestAmount_6 ?_
  refine gb_istore [(4, .int r1.2), (3, .int 0), (0, .ref 63), (1, .int x1), (2, .int x2)] d_X6_bestAmount_9 (Nat.le_of_ble_eq_true rfl) rfl ?_
  refine gb_iconst 1 d_X6_bestAmount_11 rfl ?_
  refine gb_istore [(5, .int 1), (4, .int r1.2), (3, .int 0), (0, .ref 63), (1, .int x1), (2, .int x2)] d_X6_bestAmount_12 (Nat.le_of_ble_eq_true rfl) rfl ?_
  refine gb_pick (lv' := [(0, .ref 63), (1, .int x1), (2, .int x2), (3, .int 0), (4, .int r1.2), (5, .int 1)]) [3, 4, 5, 2, 1, 0] rfl ?_
  exact t_X6_bestAmount_14 hS  gb_N _ x1 x2 0 r1.2 1 h
-- X6_cheapest
noncomputable def f_X6_cheapest_131 (sh : List gb_Sh) (b1 : Nat) : Nat → gb_G → Int32 → Int32 → Int32 → Int32 → Option (gb_G × Int32)
  | 0, _, _, _, _, _ => none
  | n + 1, g, y3, y4, y5, y6 => if y3 ≤ y6 then (gb_ck y4 900 (if (g.1 64 y4.toNatClampNeg) < 1000000 then (gb_ck y4 900 (some (g, (g.1 64 y4.toNatClampNeg)))) else (some (g, (-1))))) else (gb_bd (f_X6_bestAmount sh g y6 y5) (fun r9 => gb_ck y6 8 (gb_let (gb_pi r9.1 65 y6.toNatClampNeg r9.2) (fun g12 => gb_ck y6 8 (gb_ck y6 8 (gb_bd (f_J9_max_7cf53 sh g12 0 (y5 - ((g12.1 65 y6.toNatClampNeg) * (g12.1 67 y6.toNatClampNeg)))) (fun r15 => f_X6_cheapest_131 sh b1 n r15.1 y3 y4 r15.2 (y6 + 1))))))))
noncomputable def f_X6_cheapest_76 (sh : List gb_Sh) (b1 : Nat) (K68 : gb_G → Int32 → Int32 → Int32 → Option (gb_G × Int32)) : Nat → gb_G → Int32 → Int32 → Int32 → Int32 → Option (gb_G × Int32)
  | 0, _, _, _, _, _ => none
  | n + 1, g, y3, y4, y5, y6 => if y4 < y6 then (K68 g y3 y4 (y5 + (-1))) else (gb_bd (f_X6_bestAmount sh g y5 y6) (fun r17 => gb_bd (f_X6_costWith sh r17.1 y5 y6 r17.2) (fun r19 => gb_ck ((y5 * 100) + y6) 900 (gb_let (gb_pi r19.1 64 (((y5 * 100) + y6).toNatClampNeg) r19.2) (fun g22 => f_X6_cheapest_76 sh b1 K68 n g22 y3 y4 y5 (y6 + 1))))))
noncomputable def f_X6_cheapest_68 (sh : List gb_Sh) (b1 : Nat) : Nat → gb_G → Int32 → Int32 → Int32 → Option (gb_G × Int32)
  | 0, _, _, _, _ => none
  | n + 1, g, y3, y4, y5 => if y5 < 0 then (f_X6_cheapest_131 sh b1 gb_N g y3 y4 y4 0) else (f_X6_cheapest_76 sh b1 (fun w w0 w1 w2 => f_X6_cheapest_68 sh b1 n w w0 w1 w2) gb_N g y3 y4 y5 0)
noncomputable def f_X6_cheapest_56 (sh : List gb_Sh) (b1 : Nat) (K27 : gb_G → Int32 → Int32 → Int32 → Option (gb_G × Int32)) (g : gb_G) (y3 : Int32) (y4 : Int32) (y5 : Int32) (z0 : Int32) (z1 : Int32) : Option (gb_G × Int32) := gb_ck z1 900 (gb_let (gb_pi g 64 z1.toNatClampNeg z0) (fun g24 => K27 g24 y3 y4 (y5 + 1)))
noncomputable def f_X6_cheapest_27 (sh : List gb_Sh) (b1 : Nat) : Nat → gb_G → Int32 → Int32 → Int32 → Option (gb_G × Int32)
  | 0, _, _, _, _ => none
  | n + 1, g, y3, y4, y5 => if y4 < y5 then (f_X6_cheapest_68 sh b1 gb_N g y3 y4 (y3 - 1)) else (if y5 = 0 then (f_X6_cheapest_56 sh b1 (fun w w0 w1 w2 => f_X6_cheapest_27 sh b1 n w w0 w1 w2) g y3 y4 y5 0 ((y3 * 100) + y5)) else (f_X6_cheapest_56 sh b1 (fun w w0 w1 w2 => f_X6_cheapest_27 sh b1 n w w0 w1 w2) g y3 y4 y5 1000000 ((y3 * 100) + y5)))
noncomputable def f_X6_cheapest (sh : List gb_Sh) (g : gb_G) (b1 : Nat) (x2 : Int32) : Option (gb_G × Int32) := gb_bd (f_X6_loadWares sh g b1) (fun r1 => gb_bd (f_J9_min_7cf53 sh r1 8 (r1.1 b1 0)) (fun r3 => gb_bd (f_X10_nearest sh r3.1 x2 0 99) (fun r5 => f_X6_cheapest_27 sh b1 gb_N r5.1 r3.2 r5.2 0)))
set_option maxRecDepth 100000 in
set_option maxHeartbeats 4000000 in
theorem t_X6_cheapest_131 {Γ : gb_X} {sh : List gb_Sh} {b1 : Nat} {out : gb_G × Int32} (hS : gb_S sh) (h_b1 : gb_okX0 sh b1) : ∀ (n : Nat) (g : gb_G) (y3 : Int32) (y4 : Int32) (y5 : Int32) (y6 : Int32), f_X6_cheapest_131 sh b1 n g y3 y4 y5 y6 = some out → gb_J Γ M_X6_cheapest 4 (gb_Ri sh out) 0 0 sh g 131 [(0, .ref 63), (3, .int y3), (4, .int y4), (5, .int y5), (6, .int y6)] [] := by
  intro n
  induction n with
  | zero => intro g y3 y4 y5 y6 h; cases h
  | succ n ih =>
    intro g y3 y4 y5 y6 h
    rw [f_X6_cheapest_131] at h
    refine gb_iload d_X6_cheapest_131 rfl ?_
    refine gb_iload_n d_X6_cheapest_133 rfl ?_
    refine gb_icmp_ge 182 d_X6_cheapest_134 (by decide) (fun hc => ?_) (fun hc => ?_)
    · have h := gb_it hc h
      refine gb_aload_n d_X6_cheapest_182 rfl ?_
      refine gb_getr (r := 64) f_X6_11 (hS 63 _ rfl) rfl d_X6_cheapest_183 ?_
      refine gb_iload d_X6_cheapest_186 rfl ?_
      obtain ⟨hi7, h⟩ := gb_ck_e h
      refine gb_iald_ y4.toNatClampNeg rfl (hS 64 _ rfl) hi7 d_X6_cheapest_188 ?_
      refine gb_ldc 1000000 k_X6_101 d_X6_cheapest_189 ?_
      refine gb_icmp_lt 198 d_X6_cheapest_191 (by decide) (fun hc => ?_) (fun hc => ?_)
      · have h := gb_it hc h
        refine gb_aload_n d_X6_cheapest_198 rfl ?_
        refine gb_getr (r := 64) f_X6_11 (hS 63 _ rfl) rfl d_X6_cheapest_199 ?_
        refine gb_iload d_X6_cheapest_202 rfl ?_
        obtain ⟨hi8, h⟩ := gb_ck_e h
        refine gb_iald_ y4.toNatClampNeg rfl (hS 64 _ rfl) hi8 d_X6_cheapest_204 ?_
        cases h
        exact gb_iret d_X6_cheapest_205 rfl ⟨rfl, rfl, rfl⟩
      · have h := gb_if hc h
        refine gb_iconst (-1) d_X6_cheapest_194 rfl ?_
        refine gb_goto 205 d_X6_cheapest_195 (by decide) ?_
        cases h
        exact gb_iret d_X6_cheapest_205 rfl ⟨rfl, rfl, rfl⟩
    · have h := gb_if hc h
      refine gb_aload_n d_X6_cheapest_137 rfl ?_
      refine gb_getr (r := 65) f_X6_15 (hS 63 _ rfl) rfl d_X6_cheapest_138 ?_
      refine gb_iload d_X6_cheapest_141 rfl ?_
      refine gb_aload_n d_X6_cheapest_143 rfl ?_
      refine gb_iload d_X6_cheapest_144 rfl ?_
      refine gb_iload d_X6_cheapest_146 rfl ?_
      obtain ⟨r9, e10, h⟩ := gb_bd_e h
      refine gb_cVi (As := [.int y6, .int y5]) (rest := [.int y6, .ref 65]) m_X6_102 (t_X6_bestAmount (Γ := Γ) hS e10) (hS 63 _ rfl) rfl (Nat.le_of_ble_eq_true rfl) rfl rfl (Nat.le_of_ble_eq_true rfl) d_X6_cheapest_148 ?_
      obtain ⟨hi11, h⟩ := gb_ck_e h
      refine gb_iast_ y6.toNatClampNeg rfl (hS 65 _ rfl) hi11 d_X6_cheapest_151 ?_
      have h := gb_let_e h
      generalize gb_pi r9.1 65 y6.toNatClampNeg r9.2 = g12 at h ⊢
      refine gb_iconst 0 d_X6_cheapest_152 rfl ?_
      refine gb_iload d_X6_cheapest_153 rfl ?_
      refine gb_aload_n d_X6_cheapest_155 rfl ?_
      refine gb_getr (r := 65) f_X6_15 (hS 63 _ rfl) rfl d_X6_cheapest_156 ?_
      refine gb_iload d_X6_cheapest_159 rfl ?_
      obtain ⟨hi13, h⟩ := gb_ck_e h
      refine gb_iald_ y6.toNatClampNeg rfl (hS 65 _ rfl) hi13 d_X6_cheapest_161 ?_
      refine gb_aload_n d_X6_cheapest_162 rfl ?_
      refine gb_getr (r := 67) f_X6_21 (hS 63 _ rfl) rfl d_X6_cheapest_163 ?_
      refine gb_iload d_X6_cheapest_166 rfl ?_
      obtain ⟨hi14, h⟩ := gb_ck_e h
      refine gb_iald_ y6.toNatClampNeg rfl (hS 67 _ rfl) hi14 d_X6_cheapest_168 ?_
      refine gb_imul d_X6_cheapest_169 ?_
      refine gb_isub d_X6_cheapest_170 ?_
      obtain ⟨r15, e16, h⟩ := gb_bd_e h
      refine gb_cSi (As := [.int 0, .int (y5 - ((g12.1 65 y6.toNatClampNeg) * (g12.1 67 y6.toNatClampNeg)))]) (rest := []) m_X6_108 (t_J9_max_7cf53 (Γ := Γ) hS e16) (Nat.le_of_ble_eq_true rfl) rfl rfl (Nat.le_of_ble_eq_true rfl) d_X6_cheapest_171 ?_
      refine gb_istore [(5, .int r15.2), (0, .ref 63), (3, .int y3), (4, .int y4), (6, .int y6)] d_X6_cheapest_174 (Nat.le_of_ble_eq_true rfl) rfl ?_
      refine gb_iinc (y6 + 1) [(6, .int (y6 + 1)), (5, .int r15.2), (0, .ref 63), (3, .int y3), (4, .int y4)] d_X6_cheapest_176 (Nat.le_of_ble_eq_true rfl) rfl rfl rfl ?_
      refine gb_goto 131 d_X6_cheapest_179 (by decide) ?_
      refine gb_pick (lv' := [(0, .ref 63), (3, .int y3), (4, .int y4), (5, .int r15.2), (6, .int (y6 + 1))]) [2, 3, 4, 1, 0] rfl ?_
      exact ih _ y3 y4 r15.2 (y6 + 1) h
set_option maxRecDepth 100000 in
set_option maxHeartbeats 4000000 in
theorem t_X6_cheapest_76 {Γ : gb_X} {sh : List gb_Sh} {b1 : Nat} {out : gb_G × Int32} (hS : gb_S sh) (h_b1 : gb_okX0 sh b1) {K68 : gb_G → Int32 → Int32 → Int32 → Option (gb_G × Int32)} (hK68 : ∀ (g : gb_G) (y3 : Int32) (y4 : Int32) (y5 : Int32), K68 g y3 y4 y5 = some out → gb_J Γ M_X6_cheapest 4 (gb_Ri sh out) 0 0 sh g 68 [(0, .ref 63), (3, .int y3), (4, .int y4), (5, .int y5)] []) : ∀ (n : Nat) (g : gb_G) (y3 : Int32) (y4 : Int32) (y5 : Int32) (y6 : Int32), f_X6_cheapest_76 sh b1 K68 n g y3 y4 y5 y6 = some out → gb_J Γ M_X6_cheapest 4 (gb_Ri sh out) 0 0 sh g 76 [(0, .ref 63), (3, .int y3), (4, .int y4), (5, .int y5), (6, .int y6)] [] := by
  intro n
  induction n with
  | zero => intro g y3 y4 y5 y6 h; cases h
  | succ n ih =>
    intro g y3 y4 y5 y6 h
    rw [f_X6_cheapest_76] at h
    refine gb_iload d_X6_cheapest_76 rfl ?_
    refine gb_iload d_X6_cheapest_78 rfl ?_
    refine gb_icmp_gt 118 d_X6_cheapest_80 (by decide) (fun hc => ?_) (fun hc => ?_)
    · have h := gb_it hc h
      refine gb_iinc (y5 + (-1)) [(5, .int (y5 + (-1))), (0, .ref 63), (3, .int y3), (4, .int y4), (6, .int y6)] d_X6_cheapest_118 (Nat.le_of_ble_eq_true rfl) rfl rfl rfl ?_
      refine gb_goto 68 d_X6_cheapest_121 (by decide) ?_
      refine gb_pick (lv' := [(0, .ref 63), (3, .int y3), (4, .int y4), (5, .int (y5 + (-1)))]) [1, 2, 3, 0] rfl ?_
      exact hK68 _ y3 y4 (y5 + (-1)) h
    · have h := gb_if hc h
      refine gb_aload_n d_X6_cheapest_83 rfl ?_
      refine gb_getr (r := 64) f_X6_11 (hS 63 _ rfl) rfl d_X6_cheapest_84 ?_
      refine gb_iload d_X6_cheapest_87 rfl ?_
      refine gb_bipush 100 d_X6_cheapest_89 rfl ?_
      refine gb_imul d_X6_cheapest_91 ?_
      refine gb_iload d_X6_cheapest_92 rfl ?_
      refine gb_iadd d_X6_cheapest_94 ?_
      refine gb_aload_n d_X6_cheapest_95 rfl ?_
      refine gb_iload d_X6_cheapest_96 rfl ?_
      refine gb_iload d_X6_cheapest_98 rfl ?_
      refine gb_aload_n d_X6_cheapest_100 rfl ?_
      refine gb_iload d_X6_cheapest_101 rfl ?_
      refine gb_iload d_X6_cheapest_103 rfl ?_
      obtain ⟨r17, e18, h⟩ := gb_bd_e h
      refine gb_cVi (As := [.int y5, .int y6]) (rest := [.int y6, .int y5, .ref 63, .int ((y5 * 100) + y6), .ref 64]) m_X6_102 (t_X6_bestAmount (Γ := Γ) hS e18) (hS 63 _ rfl) rfl (Nat.le_of_ble_eq_true rfl) rfl rfl (Nat.le_of_ble_eq_true rfl) d_X6_cheapest_105 ?_
      obtain ⟨r19, e20, h⟩ := gb_bd_e h
      refine gb_cVi (As := [.int y5, .int y6, .int r17.2]) (rest := [.int ((y5 * 100) + y6), .ref 64]) m_X6_105 (t_X6_costWith (Γ := Γ) hS e20) (hS 63 _ rfl) rfl (Nat.le_of_ble_eq_true rfl) rfl rfl (Nat.le_of_ble_eq_true rfl) d_X6_cheapest_108 ?_
      obtain ⟨hi21, h⟩ := gb_ck_e h
      refine gb_iast_ (((y5 * 100) + y6).toNatClampNeg) rfl (hS 64 _ rfl) hi21 d_X6_cheapest_111 ?_
      have h := gb_let_e h
      generalize gb_pi r19.1 64 (((y5 * 100) + y6).toNatClampNeg) r19.2 = g22 at h ⊢
      refine gb_iinc (y6 + 1) [(6, .int (y6 + 1)), (0, .ref 63), (3, .int y3), (4, .int y4), (5, .int y5)] d_X6_cheapest_112 (Nat.le_of_ble_eq_true rfl) rfl rfl rfl ?_
      refine gb_goto 76 d_X6_cheapest_115 (by decide) ?_
      refine gb_pick (lv' := [(0, .ref 63), (3, .int y3), (4, .int y4), (5, .int y5), (6, .int (y6 + 1))]) [1, 2, 3, 4, 0] rfl ?_
      exact ih _ y3 y4 y5 (y6 + 1) h
set_option maxRecDepth 100000 in
set_option maxHeartbeats 4000000 in
theorem t_X6_cheapest_68 {Γ : gb_X} {sh : List gb_Sh} {b1 : Nat} {out : gb_G × Int32} (hS : gb_S sh) (h_b1 : gb_okX0 sh b1) : ∀ (n : Nat) (g : gb_G) (y3 : Int32) (y4 : Int32) (y5 : Int32), f_X6_cheapest_68 sh b1 n g y3 y4 y5 = some out → gb_J Γ M_X6_cheapest 4 (gb_Ri sh out) 0 0 sh g 68 [(0, .ref 63), (3, .int y3), (4, .int y4), (5, .int y5)] [] := by
  intro n
  induction n with
  | zero => intro g y3 y4 y5 h; cases h
  | succ n ih =>
    intro g y3 y4 y5 h
    rw [f_X6_cheapest_68] at h
    refine gb_iload d_X6_cheapest_68 rfl ?_
    refine gb_if_lt 124 d_X6_cheapest_70 (by decide) (fun hc => ?_) (fun hc => ?_)
    · have h := gb_it hc h
      refine gb_iload d_X6_cheapest_124 rfl ?_
      refine gb_istore [(5, .int y4), (0, .ref 63), (3, .int y3), (4, .int y4)] d_X6_cheapest_126 (Nat.le_of_ble_eq_true rfl) rfl ?_
      refine gb_iconst 0 d_X6_cheapest_128 rfl ?_
      refine gb_istore [(6, .int 0), (5, .int y4), (0, .ref 63), (3, .int y3), (4, .int y4)] d_X6_cheapest_129 (Nat.le_of_ble_eq_true rfl) rfl ?_
      refine gb_pick (lv' := [(0, .ref 63), (3, .int y3), (4, .int y4), (5, .int y4), (6, .int 0)]) [2, 3, 4, 1, 0] rfl ?_
      exact t_X6_cheapest_131 hS h_b1  gb_N _ y3 y4 y4 0 h
    · have h := gb_if hc h
      refine gb_iconst 0 d_X6_cheapest_73 rfl ?_
      refine gb_istore [(6, .int 0), (0, .ref 63), (3, .int y3), (4, .int y4), (5, .int y5)] d_X6_cheapest_74 (Nat.le_of_ble_eq_true rfl) rfl ?_
      refine gb_pick (lv' := [(0, .ref 63), (3, .int y3), (4, .int y4), (5, .int y5), (6, .int 0)]) [1, 2, 3, 4, 0] rfl ?_
      exact t_X6_cheapest_76 hS h_b1 (fun w w0 w1 w2 hw => ih w w0 w1 w2 hw) gb_N _ y3 y4 y5 0 h
set_option maxRecDepth 100000 in
set_option maxHeartbeats 4000000 in
theorem t_X6_cheapest_56 {Γ : gb_X} {sh : List gb_Sh} {b1 : Nat} {out : gb_G × Int32} (hS : gb_S sh) (h_b1 : gb_okX0 sh b1) {K27 : gb_G → Int32 → Int32 → Int32 → Option (gb_G × Int32)} (hK27 : ∀ (g : gb_G) (y3 : Int32) (y4 : Int32) (y5 : Int32), K27 g y3 y4 y5 = some out → gb_J Γ M_X6_cheapest 4 (gb_Ri sh out) 0 0 sh g 27 [(0, .ref 63), (3, .int y3), (4, .int y4), (5, .int y5)] []) : ∀ (g : gb_G) (y3 : Int32) (y4 : Int32) (y5 : Int32) (z0 : Int32) (z1 : Int32), f_X6_cheapest_56 sh b1 K27 g y3 y4 y5 z0 z1 = some out → gb_J Γ M_X6_cheapest 4 (gb_Ri sh out) 0 0 sh g 56 [(0, .ref 63), (3, .int y3), (4, .int y4), (5, .int y5)] [.int z0, .int z1, .ref 64] := by
  intro g y3 y4 y5 z0 z1 h
  unfold f_X6_cheapest_56 at h
  obtain ⟨hi23, h⟩ := gb_ck_e h
  refine gb_iast_ z1.toNatClampNeg rfl (hS 64 _ rfl) hi23 d_X6_cheapest_56 ?_
  have h := gb_let_e h
  generalize gb_pi g 64 z1.toNatClampNeg z0 = g24 at h ⊢
  refine gb_iinc (y5 + 1) [(5, .int (y5 + 1)), (0, .ref 63), (3, .int y3), (4, .int y4)] d_X6_cheapest_57 (Nat.le_of_ble_eq_true rfl) rfl rfl rfl ?_
  refine gb_goto 27 d_X6_cheapest_60 (by decide) ?_
  refine gb_pick (lv' := [(0, .ref 63), (3, .int y3), (4, .int y4), (5, .int (y5 + 1))]) [1, 2, 3, 0] rfl ?_
  exact hK27 _ y3 y4 (y5 + 1) h
set_option maxRecDepth 100000 in
set_option maxHeartbeats 4000000 in
theorem t_X6_cheapest_27 {Γ : gb_X} {sh : List gb_Sh} {b1 : Nat} {out : gb_G × Int32} (hS : gb_S sh) (h_b1 : gb_okX0 sh b1) : ∀ (n : Nat) (g : gb_G) (y3 : Int32) (y4 : Int32) (y5 : Int32), f_X6_cheapest_27 sh b1 n g y3 y4 y5 = some out → gb_J Γ M_X6_cheapest 4 (gb_Ri sh out) 0 0 sh g 27 [(0, .ref 63), (3, .int y3), (4, .int y4), (5, .int y5)] [] := by
  intro n
  induction n with
  | zero => intro g y3 y4 y5 h; cases h
  | succ n ih =>
    intro g y3 y4 y5 h
    rw [f_X6_cheapest_27] at h
    refine gb_iload d_X6_cheapest_27 rfl ?_
    refine gb_iload d_X6_cheapest_29 rfl ?_
    refine gb_icmp_gt 63 d_X6_cheapest_31 (by decide) (fun hc => ?_) (fun hc => ?_)
    · have h := gb_it hc h
      refine gb_iload_n d_X6_cheapest_63 rfl ?_
      refine gb_iconst 1 d_X6_cheapest_64 rfl ?_
      refine gb_isub d_X6_cheapest_65 ?_
      refine gb_istore [(5, .int (y3 - 1)), (0, .ref 63), (3, .int y3), (4, .int y4)] d_X6_cheapest_66 (Nat.le_of_ble_eq_true rfl) rfl ?_
      refine gb_pick (lv' := [(0, .ref 63), (3, .int y3), (4, .int y4), (5, .int (y3 - 1))]) [1, 2, 3, 0] rfl ?_
      exact t_X6_cheapest_68 hS h_b1  gb_N _ y3 y4 (y3 - 1) h
    · have h := gb_if hc h
      refine gb_aload_n d_X6_cheapest_34 rfl ?_
      refine gb_getr (r := 64) f_X6_11 (hS 63 _ rfl) rfl d_X6_cheapest_35 ?_
      refine gb_iload_n d_X6_cheapest_38 rfl ?_
      refine gb_bipush 100 d_X6_cheapest_39 rfl ?_
      refine gb_imul d_X6_cheapest_41 ?_
      refine gb_iload d_X6_cheapest_42 rfl ?_
      refine gb_iadd d_X6_cheapest_44 ?_
      refine gb_iload d_X6_cheapest_45 rfl ?_
      refine gb_if_ne 54 d_X6_cheapest_47 (by decide) (fun hc => ?_) (fun hc => ?_)
      · have h := gb_if hc h
        refine gb_ldc 1000000 k_X6_101 d_X6_cheapest_54 ?_
        exact t_X6_cheapest_56 hS h_b1 (fun w w0 w1 w2 hw => ih w w0 w1 w2 hw) _ y3 y4 y5 1000000 ((y3 * 100) + y5) h
      · have h := gb_it hc h
        refine gb_iconst 0 d_X6_cheapest_50 rfl ?_
        refine gb_goto 56 d_X6_cheapest_51 (by decide) ?_
        exact t_X6_cheapest_56 hS h_b1 (fun w w0 w1 w2 hw => ih w w0 w1 w2 hw) _ y3 y4 y5 0 ((y3 * 100) + y5) h
set_option maxRecDepth 100000 in
set_option maxHeartbeats 4000000 in
theorem t_X6_cheapest {Γ : gb_X} {sh : List gb_Sh} {b1 : Nat} {x2 : Int32} {out : gb_G × Int32} (hS : gb_S sh) (h_b1 : gb_okX0 sh b1) {g : gb_G} (h : f_X6_cheapest sh g b1 x2 = some out) : gb_C Γ M_X6_cheapest 4 0 0 sh g [.ref 63, .ref b1, .int x2] (gb_Ri sh out) := by
  refine gb_C.of rfl (Nat.le_of_ble_eq_true rfl) ?_
  refine gb_pick (lv' := [(0, .ref 63), (1, .ref b1), (2, .int x2)]) [0, 1, 2] rfl ?_
  unfold f_X6_cheapest at h
  refine gb_aload_n d_X6_cheapest_0 rfl ?_
  refine gb_aload_n d_X6_cheapest_1 rfl ?_
  obtain ⟨r1, e2, h⟩ := gb_bd_e h
  refine gb_cVv (As := [.ref b1]) (rest := []) m_X6_88 (t_X6_loadWares (Γ := Γ) hS h_b1 e2) (hS 63 _ rfl) rfl (Nat.le_of_ble_eq_true rfl) rfl rfl (Nat.le_of_ble_eq_true rfl) d_X6_cheapest_2 ?_
  refine gb_bipush 8 d_X6_cheapest_5 rfl ?_
  refine gb_aload_n d_X6_cheapest_7 rfl ?_
  refine gb_geti f_X6_71 h_b1.1 rfl d_X6_cheapest_8 ?_
  obtain ⟨r3, e4, h⟩ := gb_bd_e h
  refine gb_cSi (As := [.int 8, .int (r1.1 b1 0)]) (rest := []) m_X6_92 (t_J9_min_7cf53 (Γ := Γ) hS e4) (Nat.le_of_ble_eq_true rfl) rfl rfl (Nat.le_of_ble_eq_true rfl) d_X6_cheapest_11 ?_
  refine gb_istore_n [(3, .int r3.2), (0, .ref 63), (1, .ref b1), (2, .int x2)] d_X6_cheapest_14 (Nat.le_of_ble_eq_true rfl) rfl ?_
  refine gb_iload_n d_X6_cheapest_15 rfl ?_
  refine gb_iconst 0 d_X6_cheapest_16 rfl ?_
  refine gb_bipush 99 d_X6_cheapest_17 rfl ?_
  obtain ⟨r5, e6, h⟩ := gb_bd_e h
  refine gb_cSNi (As := [.int x2, .int 0, .int 99]) (rest := []) m_X6_97 (t_X10_nearest (Γ := Γ) hS e6) (Nat.le_of_ble_eq_true rfl) rfl rfl (Nat.le_of_ble_eq_true rfl) d_X6_cheapest_19 ?_
  refine gb_istore [(4, .int r5.2), (3, .int r3.2), (0, .ref 63), (1, .ref b1), (2, .int x2)] d_X6_cheapest_22 (Nat.le_of_ble_eq_true rfl) rfl ?_
  refine gb_iconst 0 d_X6_cheapest_24 rfl ?_
  refine gb_istore [(5, .int 0), (4, .int r5.2), (3, .int r3.2), (0, .ref 63), (1, .ref b1), (2, .int x2)] d_X6_cheapest_25 (Nat.le_of_ble_eq_true rfl) rfl ?_
  refine gb_pick (lv' := [(0, .ref 63), (3, .int r3.2), (4, .int r5.2), (5, .int 0)]) [3, 2, 1, 0] rfl ?_
  exact t_X6_cheapest_27 hS h_b1  gb_N _ r3.2 r5.2 0 h
-- X6_amountOf
noncomputable def f_X6_amountOf (sh : List gb_Sh) (g : gb_G) (x1 : Int32) : Option (gb_G × Int32) := gb_bd (f_X10_within sh g x1 0 7) (fun r1 => if r1.2 = 0 then (some (r1.1, (-1))) else (gb_ck x1 8 (some (r1.1, (r1.1.1 65 x1.toNatClampNeg)))))
set_option maxRecDepth 100000 in
set_option maxHeartbeats 4000000 in
theorem t_X6_amountOf {Γ : gb_X} {sh : List gb_Sh} {x1 : Int32} {out : gb_G × Int32} (hS : gb_S sh) {g : gb_G} (h : f_X6_amountOf sh g x1 = some out) : gb_C Γ M_X6_amountOf 1 0 0 sh g [.ref 63, .int x1] (gb_Ri sh out) := by
  refine gb_C.of rfl (Nat.le_of_ble_eq_true rfl) ?_
  refine gb_pick (lv' := [(0, .ref 63), (1, .int x1)]) [0, 1] rfl ?_
  unfold f_X6_amountOf at h
  refine gb_iload_n d_X6_amountOf_0 rfl ?_
  refine gb_iconst 0 d_X6_amountOf_1 rfl ?_
  refine gb_bipush 7 d_X6_amountOf_2 rfl ?_
  obtain ⟨r1, e2, h⟩ := gb_bd_e h
  refine gb_cSNi (As := [.int x1, .int 0, .int 7]) (rest := []) m_X6_111 (t_X10_within (Γ := Γ) hS e2) (Nat.le_of_ble_eq_true rfl) rfl rfl (Nat.le_of_ble_eq_true rfl) d_X6_amountOf_4 ?_
  refine gb_if_eq 19 d_X6_amountOf_7 (by decide) (fun hc => ?_) (fun hc => ?_)
  · have h := gb_it hc h
    refine gb_iconst (-1) d_X6_amountOf_19 rfl ?_
    cases h
    exact gb_iret d_X6_amountOf_20 rfl ⟨rfl, rfl, rfl⟩
  · have h := gb_if hc h
    refine gb_aload_n d_X6_amountOf_10 rfl ?_
    refine gb_getr (r := 65) f_X6_15 (hS 63 _ rfl) rfl d_X6_amountOf_11 ?_
    refine gb_iload_n d_X6_amountOf_14 rfl ?_
    obtain ⟨hi3, h⟩ := gb_ck_e h
    refine gb_iald_ x1.toNatClampNeg rfl (hS 65 _ rfl) hi3 d_X6_amountOf_15 ?_
    refine gb_goto 20 d_X6_amountOf_16 (by decide) ?_
    cases h
    exact gb_iret d_X6_amountOf_20 rfl ⟨rfl, rfl, rfl⟩
-- X6_loadPlaces
noncomputable def f_X6_loadPlaces_87 (sh : List gb_Sh) (b1 : Nat) (K16 : gb_G → Int32 → Int32 → Option (gb_G × Int32)) (g : gb_G) (y3 : Int32) (z0 : Int32) (z1 : Int32) : Option (gb_G × Int32) := K16 g (z1 ||| z0) (y3 + 1)
noncomputable def f_X6_loadPlaces_73 (sh : List gb_Sh) (b1 : Nat) (K16 : gb_G → Int32 → Int32 → Option (gb_G × Int32)) (g : gb_G) (y2 : Int32) (y3 : Int32) (y4 : Int32) (z0 : Int32) (z1 : Int32) : Option (gb_G × Int32) := gb_ck z1 8 (gb_let (gb_pi g 70 z1.toNatClampNeg z0) (fun g8 => if y4 = 0 then (f_X6_loadPlaces_87 sh b1 K16 g8 y3 0 y2) else (f_X6_loadPlaces_87 sh b1 K16 g8 y3 ((1 : Int32) <<< (y3 &&& 31)) y2)))
noncomputable def f_X6_loadPlaces_47 (sh : List gb_Sh) (b1 : Nat) (K16 : gb_G → Int32 → Int32 → Option (gb_G × Int32)) (g : gb_G) (y2 : Int32) (y3 : Int32) (z0 : Int32) : Option (gb_G × Int32) := if z0 = 0 then (f_X6_loadPlaces_73 sh b1 K16 g y2 y3 z0 0 y3) else (gb_bd (f_X0_sourceOf sh g b1 y3) (fun r9 => gb_bd (f_X0_read sh r9.1 b1 r9.2 4) (fun r11 => f_X6_loadPlaces_73 sh b1 K16 r11.1 y2 y3 z0 r11.2 y3)))
noncomputable def f_X6_loadPlaces_16 (sh : List gb_Sh) (b1 : Nat) : Nat → gb_G → Int32 → Int32 → Option (gb_G × Int32)
  | 0, _, _, _ => none
  | n + 1, g, y2, y3 => if 8 ≤ y3 then (some (g, y2)) else (gb_bd (f_X0_has sh g b1 y3) (fun r5 => if r5.2 = 0 then (f_X6_loadPlaces_47 sh b1 (fun w w0 w1 => f_X6_loadPlaces_16 sh b1 n w w0 w1) r5.1 y2 y3 0) else (gb_ck y3 8 (if (r5.1.1 60 y3.toNatClampNeg) ≤ 0 then (f_X6_loadPlaces_47 sh b1 (fun w w0 w1 => f_X6_loadPlaces_16 sh b1 n w w0 w1) r5.1 y2 y3 0) else (f_X6_loadPlaces_47 sh b1 (fun w w0 w1 => f_X6_loadPlaces_16 sh b1 n w w0 w1) r5.1 y2 y3 1)))))
noncomputable def f_X6_loadPlaces (sh : List gb_Sh) (g : gb_G) (b1 : Nat) : Option (gb_G × Int32) := gb_bd (f_X0_lawInForce sh g b1) (fun r1 => gb_bd (f_X1_load sh r1.1 b1 r1.2) (fun r3 => f_X6_loadPlaces_16 sh b1 gb_N r3 0 0))
set_option maxRecDepth 100000 in
set_option maxHeartbeats 4000000 in
theorem t_X6_loadPlaces_87 {Γ : gb_X} {sh : List gb_Sh} {b1 : Nat} {out : gb_G × Int32} (hS : gb_S sh) (h_b1 : gb_okX0 sh b1) {K16 : gb_G → Int32 → Int32 → Option (gb_G × Int32)} (hK16 : ∀ (g : gb_G) (y2 : Int32) (y3 : Int32), K16 g y2 y3 = some out → gb_J Γ M_X6_loadPlaces 4 (gb_Ri sh out) 0 0 sh g 16 [(0, .ref 63), (1, .ref b1), (2, .int y2), (3, .int y3)] []) : ∀ (g : gb_G) (y3 : Int32) (z0 : Int32) (z1 : Int32), f_X6_loadPlaces_87 sh b1 K16 g y3 z0 z1 = some out → gb_J Γ M_X6_loadPlaces 4 (gb_Ri sh out) 0 0 sh g 87 [(0, .ref 63), (1, .ref b1), (3, .int y3)] [.int z0, .int z1] := by
  intro g y3 z0 z1 h
  unfold f_X6_loadPlaces_87 at h
  refine gb_ior d_X6_loadPlaces_87 ?_
  refine gb_istore_n [(2, .int (z1 ||| z0)), (0, .ref 63), (1, .ref b1), (3, .int y3)] d_X6_loadPlaces_88 (Nat.le_of_ble_eq_true rfl) rfl ?_
  refine gb_iinc (y3 + 1) [(3, .int (y3 + 1)), (2, .int (z1 ||| z0)), (0, .ref 63), (1, .ref b1)] d_X6_loadPlaces_89 (Nat.le_of_ble_eq_true rfl) rfl rfl rfl ?_
  refine gb_goto 16 d_X6_loadPlaces_92 (by decide) ?_
  refine gb_pick (lv' := [(0, .ref 63), (1, .ref b1), (2, .int (z1 ||| z0)), (3, .int (y3 + 1))]) [2, 3, 1, 0] rfl ?_
  exact hK16 _ (z1 ||| z0) (y3 + 1) h
set_option maxRecDepth 100000 in
set_option maxHeartbeats 4000000 in
theorem t_X6_loadPlaces_73 {Γ : gb_X} {sh : List gb_Sh} {b1 : Nat} {out : gb_G × Int32} (hS : gb_S sh) (h_b1 : gb_okX0 sh b1) {K16 : gb_G → Int32 → Int32 → Option (gb_G × Int32)} (hK16 : ∀ (g : gb_G) (y2 : Int32) (y3 : Int32), K16 g y2 y3 = some out → gb_J Γ M_X6_loadPlaces 4 (gb_Ri sh out) 0 0 sh g 16 [(0, .ref 63), (1, .ref b1), (2, .int y2), (3, .int y3)] []) : ∀ (g : gb_G) (y2 : Int32) (y3 : Int32) (y4 : Int32) (z0 : Int32) (z1 : Int32), f_X6_loadPlaces_73 sh b1 K16 g y2 y3 y4 z0 z1 = some out → gb_J Γ M_X6_loadPlaces 4 (gb_Ri sh out) 0 0 sh g 73 [(0, .ref 63), (1, .ref b1), (2, .int y2), (3, .int y3), (4, .int y4)] [.int z0, .int z1, .ref 70] := by
  intro g y2 y3 y4 z0 z1 h
  unfold f_X6_loadPlaces_73 at h
  obtain ⟨hi7, h⟩ := gb_ck_e h
  refine gb_iast_ z1.toNatClampNeg rfl (hS 70 _ rfl) hi7 d_X6_loadPlaces_73 ?_
  have h := gb_let_e h
  generalize gb_pi g 70 z1.toNatClampNeg z0 = g8 at h ⊢
  refine gb_iload_n d_X6_loadPlaces_74 rfl ?_
  refine gb_iload d_X6_loadPlaces_75 rfl ?_
  refine gb_if_eq 86 d_X6_loadPlaces_77 (by decide) (fun hc => ?_) (fun hc => ?_)
  · have h := gb_it hc h
    refine gb_iconst 0 d_X6_loadPlaces_86 rfl ?_
    refine gb_pick (lv' := [(0, .ref 63), (1, .ref b1), (3, .int y3)]) [0, 1, 3] rfl ?_
    exact t_X6_loadPlaces_87 hS h_b1 hK16 _ y3 0 y2 h
  · have h := gb_if hc h
    refine gb_iconst 1 d_X6_loadPlaces_80 rfl ?_
    refine gb_iload_n d_X6_loadPlaces_81 rfl ?_
    refine gb_ishl d_X6_loadPlaces_82 ?_
    refine gb_goto 87 d_X6_loadPlaces_83 (by decide) ?_
    refine gb_pick (lv' := [(0, .ref 63), (1, .ref b1), (3, .int y3)]) [0, 1, 3] rfl ?_
    exact t_X6_loadPlaces_87 hS h_b1 hK16 _ y3 ((1 : Int32) <<< (y3 &&& 31)) y2 h
set_option maxRecDepth 100000 in
set_option maxHeartbeats 4000000 in
theorem t_X6_loadPlaces_47 {Γ : gb_X} {sh : List gb_Sh} {b1 : Nat} {out : gb_G × Int32} (hS : gb_S sh) (h_b1 : gb_okX0 sh b1) {K16 : gb_G → Int32 → Int32 → Option (gb_G × Int32)} (hK16 : ∀ (g : gb_G) (y2 : Int32) (y3 : Int32), K16 g y2 y3 = some out → gb_J Γ M_X6_loadPlaces 4 (gb_Ri sh out) 0 0 sh g 16 [(0, .ref 63), (1, .ref b1), (2, .int y2), (3, .int y3)] []) : ∀ (g : gb_G) (y2 : Int32) (y3 : Int32) (z0 : Int32), f_X6_loadPlaces_47 sh b1 K16 g y2 y3 z0 = some out → gb_J Γ M_X6_loadPlaces 4 (gb_Ri sh out) 0 0 sh g 47 [(0, .ref 63), (1, .ref b1), (2, .int y2), (3, .int y3)] [.int z0] := by
  intro g y2 y3 z0 h
  unfold f_X6_loadPlaces_47 at h
  refine gb_istore [(4, .int z0), (0, .ref 63), (1, .ref b1), (2, .int y2), (3, .int y3)] d_X6_loadPlaces_47 (Nat.le_of_ble_eq_true rfl) rfl ?_
  refine gb_aload_n d_X6_loadPlaces_49 rfl ?_
  refine gb_getr (r := 70) f_X6_30 (hS 63 _ rfl) rfl d_X6_loadPlaces_50 ?_
  refine gb_iload_n d_X6_loadPlaces_53 rfl ?_
  refine gb_iload d_X6_loadPlaces_54 rfl ?_
  refine gb_if_eq 72 d_X6_loadPlaces_56 (by decide) (fun hc => ?_) (fun hc => ?_)
  · have h := gb_it hc h
    refine gb_iconst 0 d_X6_loadPlaces_72 rfl ?_
    refine gb_pick (lv' := [(0, .ref 63), (1, .ref b1), (2, .int y2), (3, .int y3), (4, .int z0)]) [1, 2, 3, 4, 0] rfl ?_
    exact t_X6_loadPlaces_73 hS h_b1 hK16 _ y2 y3 z0 0 y3 h
  · have h := gb_if hc h
    refine gb_aload_n d_X6_loadPlaces_59 rfl ?_
    refine gb_aload_n d_X6_loadPlaces_60 rfl ?_
    refine gb_iload_n d_X6_loadPlaces_61 rfl ?_
    obtain ⟨r9, e10, h⟩ := gb_bd_e h
    refine gb_cVi (As := [.int y3]) (rest := [.ref b1, .int y3, .ref 70]) m_X6_134 (t_X0_sourceOf (Γ := Γ) hS h_b1 e10) h_b1.1 rfl (Nat.le_of_ble_eq_true rfl) rfl rfl (Nat.le_of_ble_eq_true rfl) d_X6_loadPlaces_62 ?_
    refine gb_iconst 4 d_X6_loadPlaces_65 rfl ?_
    obtain ⟨r11, e12, h⟩ := gb_bd_e h
    refine gb_cVi (As := [.int r9.2, .int 4]) (rest := [.int y3, .ref 70]) m_X6_74 (t_X0_read (Γ := Γ) hS h_b1 e12) h_b1.1 rfl (Nat.le_of_ble_eq_true rfl) rfl rfl (Nat.le_of_ble_eq_true rfl) d_X6_loadPlaces_66 ?_
    refine gb_goto 73 d_X6_loadPlaces_69 (by decide) ?_
    refine gb_pick (lv' := [(0, .ref 63), (1, .ref b1), (2, .int y2), (3, .int y3), (4, .int z0)]) [1, 2, 3, 4, 0] rfl ?_
    exact t_X6_loadPlaces_73 hS h_b1 hK16 _ y2 y3 z0 r11.2 y3 h
set_option maxRecDepth 100000 in
set_option maxHeartbeats 4000000 in
theorem t_X6_loadPlaces_16 {Γ : gb_X} {sh : List gb_Sh} {b1 : Nat} {out : gb_G × Int32} (hS : gb_S sh) (h_b1 : gb_okX0 sh b1) : ∀ (n : Nat) (g : gb_G) (y2 : Int32) (y3 : Int32), f_X6_loadPlaces_16 sh b1 n g y2 y3 = some out → gb_J Γ M_X6_loadPlaces 4 (gb_Ri sh out) 0 0 sh g 16 [(0, .ref 63), (1, .ref b1), (2, .int y2), (3, .int y3)] [] := by
  intro n
  induction n with
  | zero => intro g y2 y3 h; cases h
  | succ n ih =>
    intro g y2 y3 h
    rw [f_X6_loadPlaces_16] at h
    refine gb_iload_n d_X6_loadPlaces_16 rfl ?_
    refine gb_bipush 8 d_X6_loadPlaces_17 rfl ?_
    refine gb_icmp_ge 95 d_X6_loadPlaces_19 (by decide) (fun hc => ?_) (fun hc => ?_)
    · have h := gb_it hc h
      refine gb_iload_n d_X6_loadPlaces_95 rfl ?_
      cases h
      exact gb_iret d_X6_loadPlaces_96 rfl ⟨rfl, rfl, rfl⟩
    · have h := gb_if hc h
      refine gb_aload_n d_X6_loadPlaces_22 rfl ?_
      refine gb_iload_n d_X6_loadPlaces_23 rfl ?_
      obtain ⟨r5, e6, h⟩ := gb_bd_e h
      refine gb_cVi (As := [.int y3]) (rest := []) m_X6_128 (t_X0_has (Γ := Γ) hS h_b1 e6) h_b1.1 rfl (Nat.le_of_ble_eq_true rfl) rfl rfl (Nat.le_of_ble_eq_true rfl) d_X6_loadPlaces_24 ?_
      refine gb_if_eq 46 d_X6_loadPlaces_27 (by decide) (fun hc => ?_) (fun hc => ?_)
      · have h := gb_it hc h
        refine gb_iconst 0 d_X6_loadPlaces_46 rfl ?_
        exact t_X6_loadPlaces_47 hS h_b1 (fun w w0 w1 hw => ih w w0 w1 hw) _ y2 y3 0 h
      · have h := gb_if hc h
        refine gb_aload_n d_X6_loadPlaces_30 rfl ?_
        refine gb_getr (r := 57) f_X6_61 (hS 63 _ rfl) rfl d_X6_loadPlaces_31 ?_
        refine gb_getr (r := 60) f_X6_131 (hS 57 _ rfl) rfl d_X6_loadPlaces_34 ?_
        refine gb_iload_n d_X6_loadPlaces_37 rfl ?_
        obtain ⟨hi13, h⟩ := gb_ck_e h
        refine gb_iald_ y3.toNatClampNeg rfl (hS 60 _ rfl) hi13 d_X6_loadPlaces_38 ?_
        refine gb_if_le 46 d_X6_loadPlaces_39 (by decide) (fun hc => ?_) (fun hc => ?_)
        · have h := gb_it hc h
          refine gb_iconst 0 d_X6_loadPlaces_46 rfl ?_
          exact t_X6_loadPlaces_47 hS h_b1 (fun w w0 w1 hw => ih w w0 w1 hw) _ y2 y3 0 h
        · have h := gb_if hc h
          refine gb_iconst 1 d_X6_loadPlaces_42 rfl ?_
          refine gb_goto 47 d_X6_loadPlaces_43 (by decide) ?_
          exact t_X6_loadPlaces_47 hS h_b1 (fun w w0 w1 hw => ih w w0 w1 hw) _ y2 y3 1 h
set_option maxRecDepth 100000 in
set_option maxHeartbeats 4000000 in
theorem t_X6_loadPlaces {Γ : gb_X} {sh : List gb_Sh} {b1 : Nat} {out : gb_G × Int32} (hS : gb_S sh) (h_b1 : gb_okX0 sh b1) {g : gb_G} (h : f_X6_loadPlaces sh g b1 = some out) : gb_C Γ M_X6_loadPlaces 4 0 0 sh g [.ref 63, .ref b1] (gb_Ri sh out) := by
  refine gb_C.of rfl (Nat.le_of_ble_eq_true rfl) ?_
  refine gb_pick (lv' := [(0, .ref 63), (1, .ref b1)]) [0, 1] rfl ?_
  unfold f_X6_loadPlaces at h
  refine gb_aload_n d_X6_loadPlaces_0 rfl ?_
  refine gb_getr (r := 57) f_X6_61 (hS 63 _ rfl) rfl d_X6_loadPlaces_1 ?_
  refine gb_aload_n d_X6_loadPlaces_4 rfl ?_
  refine gb_aload_n d_X6_loadPlaces_5 rfl ?_
  obtain ⟨r1, e2, h⟩ := gb_bd_e h
  refine gb_cVq (As := []) (rest := [.ref b1, .ref 57]) m_X6_65 (t_X0_lawInForce (Γ := Γ) hS h_b1 e2) h_b1.1 rfl (Nat.le_of_ble_eq_true rfl) rfl rfl (Nat.le_of_ble_eq_true rfl) d_X6_loadPlaces_6 ?_
  obtain ⟨r3, e4, h⟩ := gb_bd_e h
  refine gb_cVv (As := [.ref b1, va_rf r1.2]) (rest := []) m_X6_122 (t_X1_load (Γ := Γ) hS h_b1 e4) (hS 57 _ rfl) rfl (Nat.le_of_ble_eq_true rfl) rfl rfl (Nat.le_of_ble_eq_true rfl) d_X6_loadPlaces_9 ?_
  refine gb_iconst 0 d_X6_loadPlaces_12 rfl ?_
  refine gb_istore_n [(2, .int 0), (0, .ref 63), (1, .ref b1)] d_X6_loadPlaces_13 (Nat.le_of_ble_eq_true rfl) rfl ?_
  refine gb_iconst 0 d_X6_loadPlaces_14 rfl ?_
  refine gb_istore_n [(3, .int 0), (2, .int 0), (0, .ref 63), (1, .ref b1)] d_X6_loadPlaces_15 (Nat.le_of_ble_eq_true rfl) rfl ?_
  refine gb_pick (lv' := [(0, .ref 63), (1, .ref b1), (2, .int 0), (3, .int 0)]) [2, 3, 1, 0] rfl ?_
  exact t_X6_loadPlaces_16 hS h_b1  gb_N _ 0 0 h
-- J9_abs_0f7a4
noncomputable def f_J9_abs_0f7a4 (sh : List gb_Sh) (g : gb_G) (x1 : Int32) : Option (gb_G × Int32) := if 0 ≤ x1 then (some (g, x1)) else (some (g, (-x1)))
set_option maxRecDepth 100000 in
set_option maxHeartbeats 4000000 in
theorem t_J9_abs_0f7a4 {Γ : gb_X} {sh : List gb_Sh} {x1 : Int32} {out : gb_G × Int32} (hS : gb_S sh) {g : gb_G} (h : f_J9_abs_0f7a4 sh g x1 = some out) : gb_C Γ M_J9_abs_0f7a4 0 0 0 sh g [.int x1] (gb_Ri sh out) := by
  refine gb_C.ofF (by decide +kernel) (Nat.le_of_ble_eq_true rfl) ?_
  refine gb_pick (lv' := [(0, .int x1)]) [0] rfl ?_
  unfold f_J9_abs_0f7a4 at h
  refine gb_iload_n d_J9_abs_0f7a4_0 rfl ?_
  refine gb_if_ge 9 d_J9_abs_0f7a4_1 (by decide) (fun hc => ?_) (fun hc => ?_)
  · have h := gb_it hc h
    refine gb_iload_n d_J9_abs_0f7a4_9 rfl ?_
    cases h
    exact gb_iret d_J9_abs_0f7a4_10 rfl ⟨rfl, rfl, rfl⟩
  · have h := gb_if hc h
    refine gb_iload_n d_J9_abs_0f7a4_4 rfl ?_
    refine gb_ineg d_J9_abs_0f7a4_5 ?_
    refine gb_goto 10 d_J9_abs_0f7a4_6 (by decide) ?_
    cases h
    exact gb_iret d_J9_abs_0f7a4_10 rfl ⟨rfl, rfl, rfl⟩
-- X6_stepsBetween
noncomputable def f_X6_stepsBetween (sh : List gb_Sh) (g : gb_G) (x1 : Int32) (x2 : Int32) : Option (gb_G × Int32) := gb_bd (f_J9_abs_0f7a4 sh g ((gb_rem x1 5) - (gb_rem x2 5))) (fun r1 => gb_bd (f_J9_abs_0f7a4 sh r1.1 ((x1 / 5) - (x2 / 5))) (fun r3 => some (r3.1, (r1.2 + r3.2))))
set_option maxRecDepth 100000 in
set_option maxHeartbeats 4000000 in
theorem t_X6_stepsBetween {Γ : gb_X} {sh : List gb_Sh} {x1 : Int32} {x2 : Int32} {out : gb_G × Int32} (hS : gb_S sh) {g : gb_G} (h : f_X6_stepsBetween sh g x1 x2 = some out) : gb_C Γ M_X6_stepsBetween 1 0 0 sh g [.int x1, .int x2] (gb_Ri sh out) := by
  refine gb_C.of rfl (Nat.le_of_ble_eq_true rfl) ?_
  refine gb_pick (lv' := [(0, .int x1), (1, .int x2)]) [0, 1] rfl ?_
  unfold f_X6_stepsBetween at h
  refine gb_iload_n d_X6_stepsBetween_0 rfl ?_
  refine gb_iconst 5 d_X6_stepsBetween_1 rfl ?_
  refine gb_rem_ d_X6_stepsBetween_2 (by decide) ?_
  refine gb_iload_n d_X6_stepsBetween_3 rfl ?_
  refine gb_iconst 5 d_X6_stepsBetween_4 rfl ?_
  refine gb_rem_ d_X6_stepsBetween_5 (by decide) ?_
  refine gb_isub d_X6_stepsBetween_6 ?_
  obtain ⟨r1, e2, h⟩ := gb_bd_e h
  refine gb_cSi (As := [.int ((gb_rem x1 5) - (gb_rem x2 5))]) (rest := []) m_X6_141 (t_J9_abs_0f7a4 (Γ := Γ) hS e2) (Nat.le_of_ble_eq_true rfl) rfl rfl (Nat.le_of_ble_eq_true rfl) d_X6_stepsBetween_7 ?_
  refine gb_iload_n d_X6_stepsBetween_10 rfl ?_
  refine gb_iconst 5 d_X6_stepsBetween_11 rfl ?_
  refine gb_idiv d_X6_stepsBetween_12 (by decide) ?_
  refine gb_iload_n d_X6_stepsBetween_13 rfl ?_
  refine gb_iconst 5 d_X6_stepsBetween_14 rfl ?_
  refine gb_idiv d_X6_stepsBetween_15 (by decide) ?_
  refine gb_isub d_X6_stepsBetween_16 ?_
  obtain ⟨r3, e4, h⟩ := gb_bd_e h
  refine gb_cSi (As := [.int ((x1 / 5) - (x2 / 5))]) (rest := [.int r1.2]) m_X6_141 (t_J9_abs_0f7a4 (Γ := Γ) hS e4) (Nat.le_of_ble_eq_true rfl) rfl rfl (Nat.le_of_ble_eq_true rfl) d_X6_stepsBetween_17 ?_
  refine gb_iadd d_X6_stepsBetween_20 ?_
  cases h
  exact gb_iret d_X6_stepsBetween_21 rfl ⟨rfl, rfl, rfl⟩
-- X6_shortest
noncomputable def f_X6_shortest_108 (sh : List gb_Sh) (g : gb_G) (y3 : Int32) : Option (gb_G × Int32) := gb_bd (f_J9_max_7cf53 sh g 0 y3) (fun r1 => some (r1.1, r1.2))
noncomputable def f_X6_shortest_102 (sh : List gb_Sh) (K5 : gb_G → Int32 → Int32 → Int32 → Int32 → Option (gb_G × Int32)) (g : gb_G) (y1 : Int32) (y2 : Int32) (y3 : Int32) (y4 : Int32) : Option (gb_G × Int32) := K5 g y1 y2 y3 (y4 + 1)
noncomputable def f_X6_shortest_101 (sh : List gb_Sh) (K102 : gb_G → Int32 → Int32 → Int32 → Int32 → Option (gb_G × Int32)) (g : gb_G) (y1 : Int32) (y2 : Int32) (y4 : Int32) (z0 : Int32) : Option (gb_G × Int32) := K102 g y1 y2 z0 y4
noncomputable def f_X6_shortest_75 (sh : List gb_Sh) (K102 : gb_G → Int32 → Int32 → Int32 → Int32 → Option (gb_G × Int32)) (g : gb_G) (y1 : Int32) (y2 : Int32) (y3 : Int32) (y4 : Int32) (y6 : Int32) : Option (gb_G × Int32) := if y3 = (-1) then (f_X6_shortest_101 sh K102 g y1 y2 y4 ((y6 * 8) + y4)) else (gb_bd (f_J9_min_7cf53 sh g y3 ((y6 * 8) + y4)) (fun r6 => f_X6_shortest_101 sh K102 r6.1 y1 y2 y4 r6.2))
noncomputable def f_X6_shortest_5 (sh : List gb_Sh) : Nat → gb_G → Int32 → Int32 → Int32 → Int32 → Option (gb_G × Int32)
  | 0, _, _, _, _, _ => none
  | n + 1, g, y1, y2, y3, y4 => if 8 ≤ y4 then (f_X6_shortest_108 sh g y3) else (if 256 ≤ y2 then (f_X6_shortest_108 sh g y3) else (if ((y2 >>> (y4 &&& 31)) &&& 1) = 1 then (gb_ck y4 8 (gb_bd (f_X6_stepsBetween sh g y1 (g.1 70 y4.toNatClampNeg)) (fun r4 => if (y2 &&& (((1 : Int32) <<< (y4 &&& 31)) ^^^ (-1))) ≤ 0 then (f_X6_shortest_75 sh (fun w w0 w1 w2 w3 => f_X6_shortest_102 sh (fun w w0 w1 w2 w3 => f_X6_shortest_5 sh n w w0 w1 w2 w3) w w0 w1 w2 w3) r4.1 y1 y2 y3 y4 r4.2) else (gb_ck (((y2 &&& (((1 : Int32) <<< (y4 &&& 31)) ^^^ (-1))) * 8) + y4) 2048 (f_X6_shortest_75 sh (fun w w0 w1 w2 w3 => f_X6_shortest_102 sh (fun w w0 w1 w2 w3 => f_X6_shortest_5 sh n w w0 w1 w2 w3) w w0 w1 w2 w3) r4.1 y1 y2 y3 y4 (r4.2 + (r4.1.1 69 ((((y2 &&& (((1 : Int32) <<< (y4 &&& 31)) ^^^ (-1))) * 8) + y4).toNatClampNeg)))))))) else (f_X6_shortest_102 sh (fun w w0 w1 w2 w3 => f_X6_shortest_5 sh n w w0 w1 w2 w3) g y1 y2 y3 y4)))
noncomputable def f_X6_shortest (sh : List gb_Sh) (g : gb_G) (x1 : Int32) (x2 : Int32) : Option (gb_G × Int32) := f_X6_shortest_5 sh gb_N g x1 x2 (-1) 0
set_option maxRecDepth 100000 in
set_option maxHeartbeats 4000000 in
theorem t_X6_shortest_108 {Γ : gb_X} {sh : List gb_Sh} {out : gb_G × Int32} (hS : gb_S sh) : ∀ (g : gb_G) (y3 : Int32), f_X6_shortest_108 sh g y3 = some out → gb_J Γ M_X6_shortest 2 (gb_Ri sh out) 0 0 sh g 108 [(3, .int y3)] [] := by
  intro g y3 h
  unfold f_X6_shortest_108 at h
  refine gb_iconst 0 d_X6_shortest_108 rfl ?_
  refine gb_iload_n d_X6_shortest_109 rfl ?_
  obtain ⟨r1, e2, h⟩ := gb_bd_e h
  refine gb_cSi (As := [.int 0, .int y3]) (rest := []) m_X6_108 (t_J9_max_7cf53 (Γ := Γ) hS e2) (Nat.le_of_ble_eq_true rfl) rfl rfl (Nat.le_of_ble_eq_true rfl) d_X6_shortest_110 ?_
  cases h
  exact gb_iret d_X6_shortest_113 rfl ⟨rfl, rfl, rfl⟩
set_option maxRecDepth 100000 in
set_option maxHeartbeats 4000000 in
theorem t_X6_shortest_102 {Γ : gb_X} {sh : List gb_Sh} {out : gb_G × Int32} (hS : gb_S sh) {K5 : gb_G → Int32 → Int32 → Int32 → Int32 → Option (gb_G × Int32)} (hK5 : ∀ (g : gb_G) (y1 : Int32) (y2 : Int32) (y3 : Int32) (y4 : Int32), K5 g y1 y2 y3 y4 = some out → gb_J Γ M_X6_shortest 2 (gb_Ri sh out) 0 0 sh g 5 [(0, .ref 63), (1, .int y1), (2, .int y2), (3, .int y3), (4, .int y4)] []) : ∀ (g : gb_G) (y1 : Int32) (y2 : Int32) (y3 : Int32) (y4 : Int32), f_X6_shortest_102 sh K5 g y1 y2 y3 y4 = some out → gb_J Γ M_X6_shortest 2 (gb_Ri sh out) 0 0 sh g 102 [(0, .ref 63), (1, .int y1), (2, .int y2), (3, .int y3), (4, .int y4)] [] := by
  intro g y1 y2 y3 y4 h
  unfold f_X6_shortest_102 at h
  refine gb_iinc (y4 + 1) [(4, .int (y4 + 1)), (0, .ref 63), (1, .int y1), (2, .int y2), (3, .int y3)] d_X6_shortest_102 (Nat.le_of_ble_eq_true rfl) rfl rfl rfl ?_
  refine gb_goto 5 d_X6_shortest_105 (by decide) ?_
  refine gb_pick (lv' := [(0, .ref 63), (1, .int y1), (2, .int y2), (3, .int y3), (4, .int (y4 + 1))]) [1, 2, 3, 4, 0] rfl ?_
  exact hK5 _ y1 y2 y3 (y4 + 1) h
set_option maxRecDepth 100000 in
set_option maxHeartbeats 4000000 in
theorem t_X6_shortest_101 {Γ : gb_X} {sh : List gb_Sh} {out : gb_G × Int32} (hS : gb_S sh) {K102 : gb_G → Int32 → Int32 → Int32 → Int32 → Option (gb_G × Int32)} (hK102 : ∀ (g : gb_G) (y1 : Int32) (y2 : Int32) (y3 : Int32) (y4 : Int32), K102 g y1 y2 y3 y4 = some out → gb_J Γ M_X6_shortest 2 (gb_Ri sh out) 0 0 sh g 102 [(0, .ref 63), (1, .int y1), (2, .int y2), (3, .int y3), (4, .int y4)] []) : ∀ (g : gb_G) (y1 : Int32) (y2 : Int32) (y4 : Int32) (z0 : Int32), f_X6_shortest_101 sh K102 g y1 y2 y4 z0 = some out → gb_J Γ M_X6_shortest 2 (gb_Ri sh out) 0 0 sh g 101 [(0, .ref 63), (1, .int y1), (2, .int y2), (4, .int y4)] [.int z0] := by
  intro g y1 y2 y4 z0 h
  unfold f_X6_shortest_101 at h
  refine gb_istore_n [(3, .int z0), (0, .ref 63), (1, .int y1), (2, .int y2), (4, .int y4)] d_X6_shortest_101 (Nat.le_of_ble_eq_true rfl) rfl ?_
  refine gb_pick (lv' := [(0, .ref 63), (1, .int y1), (2, .int y2), (3, .int z0), (4, .int y4)]) [1, 2, 3, 0, 4] rfl ?_
  exact hK102 _ y1 y2 z0 y4 h
set_option maxRecDepth 100000 in
set_option maxHeartbeats 4000000 in
theorem t_X6_shortest_75 {Γ : gb_X} {sh : List gb_Sh} {out : gb_G × Int32} (hS : gb_S sh) {K102 : gb_G → Int32 → Int32 → Int32 → Int32 → Option (gb_G × Int32)} (hK102 : ∀ (g : gb_G) (y1 : Int32) (y2 : Int32) (y3 : Int32) (y4 : Int32), K102 g y1 y2 y3 y4 = some out → gb_J Γ M_X6_shortest 2 (gb_Ri sh out) 0 0 sh g 102 [(0, .ref 63), (1, .int y1), (2, .int y2), (3, .int y3), (4, .int y4)] []) : ∀ (g : gb_G) (y1 : Int32) (y2 : Int32) (y3 : Int32) (y4 : Int32) (y6 : Int32), f_X6_shortest_75 sh K102 g y1 y2 y3 y4 y6 = some out → gb_J Γ M_X6_shortest 2 (gb_Ri sh out) 0 0 sh g 75 [(0, .ref 63), (1, .int y1), (2, .int y2), (3, .int y3), (4, .int y4), (6, .int y6)] [] := by
  intro g y1 y2 y3 y4 y6 h
  unfold f_X6_shortest_75 at h
  refine gb_iload d_X6_shortest_75 rfl ?_
  refine gb_bipush 8 d_X6_shortest_77 rfl ?_
  refine gb_imul d_X6_shortest_79 ?_
  refine gb_iload d_X6_shortest_80 rfl ?_
  refine gb_iadd d_X6_shortest_82 ?_
  refine gb_istore [(7, .int ((y6 * 8) + y4)), (0, .ref 63), (1, .int y1), (2, .int y2), (3, .int y3), (4, .int y4), (6, .int y6)] d_X6_shortest_83 (Nat.le_of_ble_eq_true rfl) rfl ?_
  refine gb_iload_n d_X6_shortest_85 rfl ?_
  refine gb_iconst (-1) d_X6_shortest_86 rfl ?_
  refine gb_icmp_ne 95 d_X6_shortest_87 (by decide) (fun hc => ?_) (fun hc => ?_)
  · have h := gb_if hc h
    refine gb_iload_n d_X6_shortest_95 rfl ?_
    refine gb_iload d_X6_shortest_96 rfl ?_
    obtain ⟨r6, e7, h⟩ := gb_bd_e h
    refine gb_cSi (As := [.int y3, .int ((y6 * 8) + y4)]) (rest := []) m_X6_92 (t_J9_min_7cf53 (Γ := Γ) hS e7) (Nat.le_of_ble_eq_true rfl) rfl rfl (Nat.le_of_ble_eq_true rfl) d_X6_shortest_98 ?_
    refine gb_pick (lv' := [(0, .ref 63), (1, .int y1), (2, .int y2), (4, .int y4)]) [1, 2, 3, 5] rfl ?_
    exact t_X6_shortest_101 hS hK102 _ y1 y2 y4 r6.2 h
  · have h := gb_it hc h
    refine gb_iload d_X6_shortest_90 rfl ?_
    refine gb_goto 101 d_X6_shortest_92 (by decide) ?_
    refine gb_pick (lv' := [(0, .ref 63), (1, .int y1), (2, .int y2), (4, .int y4)]) [1, 2, 3, 5] rfl ?_
    exact t_X6_shortest_101 hS hK102 _ y1 y2 y4 ((y6 * 8) + y4) h
set_option maxRecDepth 100000 in
set_option maxHeartbeats 4000000 in
theorem t_X6_shortest_5 {Γ : gb_X} {sh : List gb_Sh} {out : gb_G × Int32} (hS : gb_S sh) : ∀ (n : Nat) (g : gb_G) (y1 : Int32) (y2 : Int32) (y3 : Int32) (y4 : Int32), f_X6_shortest_5 sh n g y1 y2 y3 y4 = some out → gb_J Γ M_X6_shortest 2 (gb_Ri sh out) 0 0 sh g 5 [(0, .ref 63), (1, .int y1), (2, .int y2), (3, .int y3), (4, .int y4)] [] := by
  intro n
  induction n with
  | zero => intro g y1 y2 y3 y4 h; cases h
  | succ n ih =>
    intro g y1 y2 y3 y4 h
    rw [f_X6_shortest_5] at h
    refine gb_iload d_X6_shortest_5 rfl ?_
    refine gb_bipush 8 d_X6_shortest_7 rfl ?_
    refine gb_icmp_ge 108 d_X6_shortest_9 (by decide) (fun hc => ?_) (fun hc => ?_)
    · have h := gb_it hc h
      refine gb_pick (lv' := [(3, .int y3)]) [3] rfl ?_
      exact t_X6_shortest_108 hS  _ y3 h
    · have h := gb_if hc h
      refine gb_iload_n d_X6_shortest_12 rfl ?_
      refine gb_sipush 256 d_X6_shortest_13 rfl ?_
      refine gb_icmp_ge 108 d_X6_shortest_16 (by decide) (fun hc => ?_) (fun hc => ?_)
      · have h := gb_it hc h
        refine gb_pick (lv' := [(3, .int y3)]) [3] rfl ?_
        exact t_X6_shortest_108 hS  _ y3 h
      · have h := gb_if hc h
        refine gb_iload_n d_X6_shortest_19 rfl ?_
        refine gb_iload d_X6_shortest_20 rfl ?_
        refine gb_ishr d_X6_shortest_22 ?_
        refine gb_iconst 1 d_X6_shortest_23 rfl ?_
        refine gb_iand d_X6_shortest_24 ?_
        refine gb_iconst 1 d_X6_shortest_25 rfl ?_
        refine gb_icmp_ne 102 d_X6_shortest_26 (by decide) (fun hc => ?_) (fun hc => ?_)
        · have h := gb_if hc h
          exact t_X6_shortest_102 hS (fun w w0 w1 w2 w3 hw => ih w w0 w1 w2 w3 hw) _ y1 y2 y3 y4 h
        · have h := gb_it hc h
          refine gb_iload_n d_X6_shortest_29 rfl ?_
          refine gb_iconst 1 d_X6_shortest_30 rfl ?_
          refine gb_iload d_X6_shortest_31 rfl ?_
          refine gb_ishl d_X6_shortest_33 ?_
          refine gb_iconst (-1) d_X6_shortest_34 rfl ?_
          refine gb_ixor d_X6_shortest_35 ?_
          refine gb_iand d_X6_shortest_36 ?_
          refine gb_istore [(5, .int (y2 &&& (((1 : Int32) <<< (y4 &&& 31)) ^^^ (-1)))), (0, .ref 63), (1, .int y1), (2, .int y2), (3, .int y3), (4, .int y4)] d_X6_shortest_37 (Nat.le_of_ble_eq_true rfl) rfl ?_
          refine gb_iload_n d_X6_shortest_39 rfl ?_
          refine gb_aload_n d_X6_shortest_40 rfl ?_
          refine gb_getr (r := 70) f_X6_30 (hS 63 _ rfl) rfl d_X6_shortest_41 ?_
          refine gb_iload d_X6_shortest_44 rfl ?_
          obtain ⟨hi3, h⟩ := gb_ck_e h
          refine gb_iald_ y4.toNatClampNeg rfl (hS 70 _ rfl) hi3 d_X6_shortest_46 ?_
          obtain ⟨r4, e5, h⟩ := gb_bd_e h
          refine gb_cSi (As := [.int y1, .int (g.1 70 y4.toNatClampNeg)]) (rest := []) m_X6_138 (t_X6_stepsBetween (Γ := Γ) hS e5) (Nat.le_of_ble_eq_true rfl) rfl rfl (Nat.le_of_ble_eq_true rfl) d_X6_shortest_47 ?_
          refine gb_istore [(6, .int r4.2), (5, .int (y2 &&& (((1 : Int32) <<< (y4 &&& 31)) ^^^ (-1)))), (0, .ref 63), (1, .int y1), (2, .int y2), (3, .int y3), (4, .int y4)] d_X6_shortest_50 (Nat.le_of_ble_eq_true rfl) rfl ?_
          refine gb_iload d_X6_shortest_52 rfl ?_
          refine gb_if_le 75 d_X6_shortest_54 (by decide) (fun hc => ?_) (fun hc => ?_)
          · have h := gb_it hc h
            refine gb_pick (lv' := [(0, .ref 63), (1, .int y1), (2, .int y2), (3, .int y3), (4, .int y4), (6, .int r4.2)]) [2, 3, 4, 5, 6, 0] rfl ?_
            exact t_X6_shortest_75 hS (fun w w0 w1 w2 w3 hw => t_X6_shortest_102 hS (fun w w0 w1 w2 w3 hw => ih w w0 w1 w2 w3 hw) w w0 w1 w2 w3 hw) _ y1 y2 y3 y4 r4.2 h
          · have h := gb_if hc h
            refine gb_iload d_X6_shortest_57 rfl ?_
            refine gb_aload_n d_X6_shortest_59 rfl ?_
            refine gb_getr (r := 69) f_X6_27 (hS 63 _ rfl) rfl d_X6_shortest_60 ?_
            refine gb_iload d_X6_shortest_63 rfl ?_
            refine gb_bipush 8 d_X6_shortest_65 rfl ?_
            refine gb_imul d_X6_shortest_67 ?_
            refine gb_iload d_X6_shortest_68 rfl ?_
            refine gb_iadd d_X6_shortest_70 ?_
            obtain ⟨hi8, h⟩ := gb_ck_e h
            refine gb_iald_ ((((y2 &&& (((1 : Int32) <<< (y4 &&& 31)) ^^^ (-1))) * 8) + y4).toNatClampNeg) rfl (hS 69 _ rfl) hi8 d_X6_shortest_71 ?_
            refine gb_iadd d_X6_shortest_72 ?_
            refine gb_istore [(6, .int (r4.2 + (r4.1.1 69 ((((y2 &&& (((1 : Int32) <<< (y4 &&& 31)) ^^^ (-1))) * 8) + y4).toNatClampNeg)))), (5, .int (y2 &&& (((1 : Int32) <<< (y4 &&& 31)) ^^^ (-1)))), (0, .ref 63), (1, .int y1), (2, .int y2), (3, .int y3), (4, .int y4)] d_X6_shortest_73 (Nat.le_of_ble_eq_true rfl) rfl ?_
            refine gb_pick (lv' := [(0, .ref 63), (1, .int y1), (2, .int y2), (3, .int y3), (4, .int y4), (6, .int (r4.2 + (r4.1.1 69 ((((y2 &&& (((1 : Int32) <<< (y4 &&& 31)) ^^^ (-1))) * 8) + y4).toNatClampNeg))))]) [2, 3, 4, 5, 6, 0] rfl ?_
            exact t_X6_shortest_75 hS (fun w w0 w1 w2 w3 hw => t_X6_shortest_102 hS (fun w w0 w1 w2 w3 hw => ih w w0 w1 w2 w3 hw) w w0 w1 w2 w3 hw) _ y1 y2 y3 y4 (r4.2 + (r4.1.1 69 ((((y2 &&& (((1 : Int32) <<< (y4 &&& 31)) ^^^ (-1))) * 8) + y4).toNatClampNeg))) h
set_option maxRecDepth 100000 in
set_option maxHeartbeats 4000000 in
theorem t_X6_shortest {Γ : gb_X} {sh : List gb_Sh} {x1 : Int32} {x2 : Int32} {out : gb_G × Int32} (hS : gb_S sh) {g : gb_G} (h : f_X6_shortest sh g x1 x2 = some out) : gb_C Γ M_X6_shortest 2 0 0 sh g [.ref 63, .int x1, .int x2] (gb_Ri sh out) := by
  refine gb_C.of rfl (Nat.le_of_ble_eq_true rfl) ?_
  refine gb_pick (lv' := [(0, .ref 63), (1, .int x1), (2, .int x2)]) [0, 1, 2] rfl ?_
  unfold f_X6_shortest at h
  refine gb_iconst (-1) d_X6_shortest_0 rfl ?_
  refine gb_istore_n [(3, .int (-1)), (0, .ref 63), (1, .int x1), (2, .int x2)] d_X6_shortest_1 (Nat.le_of_ble_eq_true rfl) rfl ?_
  refine gb_iconst 0 d_X6_shortest_2 rfl ?_
  refine gb_istore [(4, .int 0), (3, .int (-1)), (0, .ref 63), (1, .int x1), (2, .int x2)] d_X6_shortest_3 (Nat.le_of_ble_eq_true rfl) rfl ?_
  refine gb_pick (lv' := [(0, .ref 63), (1, .int x1), (2, .int x2), (3, .int (-1)), (4, .int 0)]) [2, 3, 4, 1, 0] rfl ?_
  exact t_X6_shortest_5 hS  gb_N _ x1 x2 (-1) 0 h
-- X6_walk
noncomputable def f_X6_walk_123 (sh : List gb_Sh) (b1 : Nat) : Nat → gb_G → Int32 → Int32 → Int32 → Int32 → Option (gb_G × Int32)
  | 0, _, _, _, _, _ => none
  | n + 1, g, y4, y5, y6, y7 => if 8 ≤ y7 then (some (g, y4)) else (if y6 = 0 then (some (g, y4)) else (gb_bd (f_X6_shortest sh g y5 y6) (fun r6 => gb_ck y7 8 (gb_let (gb_pi r6.1 71 y7.toNatClampNeg (gb_rem r6.2 8)) (fun g9 => gb_let (gb_pi g9 63 10 (y7 + 1)) (fun g10 => gb_ck (gb_rem r6.2 8) 8 (f_X6_walk_123 sh b1 n g10 y4 (g10.1 70 ((gb_rem r6.2 8).toNatClampNeg)) (y6 &&& (((1 : Int32) <<< ((gb_rem r6.2 8) &&& 31)) ^^^ (-1))) (y7 + 1))))))))
noncomputable def f_X6_walk_98 (sh : List gb_Sh) (b1 : Nat) (g : gb_G) (y2 : Int32) (y3 : Int32) : Option (gb_G × Int32) := gb_let (gb_pi g 63 10 0) (fun g3 => gb_bd (f_X6_shortest sh g3 y2 y3) (fun r4 => f_X6_walk_123 sh b1 gb_N r4.1 (r4.2 / 8) y2 y3 0))
noncomputable def f_X6_walk_92 (sh : List gb_Sh) (b1 : Nat) (K9 : gb_G → Int32 → Int32 → Int32 → Option (gb_G × Int32)) (g : gb_G) (y2 : Int32) (y3 : Int32) (y4 : Int32) : Option (gb_G × Int32) := K9 g y2 y3 (y4 + 1)
noncomputable def f_X6_walk_86 (sh : List gb_Sh) (b1 : Nat) (K26 : gb_G → Int32 → Int32 → Int32 → Int32 → Option (gb_G × Int32)) (g : gb_G) (y2 : Int32) (y3 : Int32) (y4 : Int32) (y5 : Int32) : Option (gb_G × Int32) := K26 g y2 y3 y4 (y5 + 1)
noncomputable def f_X6_walk_26 (sh : List gb_Sh) (b1 : Nat) (K9 : gb_G → Int32 → Int32 → Int32 → Option (gb_G × Int32)) : Nat → gb_G → Int32 → Int32 → Int32 → Int32 → Option (gb_G × Int32)
  | 0, _, _, _, _, _ => none
  | n + 1, g, y2, y3, y4, y5 => if 8 ≤ y5 then (f_X6_walk_92 sh b1 K9 g y2 y3 y4) else (if (y4 &&& y3) = y4 then (if (((y3 &&& (y4 ^^^ (-1))) >>> (y5 &&& 31)) &&& 1) = 1 then (gb_ck y5 8 (gb_bd (f_X6_shortest sh g (g.1 70 y5.toNatClampNeg) y4) (fun r13 => gb_ck ((y4 * 8) + y5) 2048 (gb_let (gb_pi r13.1 69 (((y4 * 8) + y5).toNatClampNeg) (r13.2 / 8)) (fun g16 => f_X6_walk_86 sh b1 (fun w w0 w1 w2 w3 => f_X6_walk_26 sh b1 K9 n w w0 w1 w2 w3) g16 y2 y3 y4 y5))))) else (f_X6_walk_86 sh b1 (fun w w0 w1 w2 w3 => f_X6_walk_26 sh b1 K9 n w w0 w1 w2 w3) g y2 y3 y4 y5)) else (f_X6_walk_92 sh b1 K9 g y2 y3 y4))
noncomputable def f_X6_walk_9 (sh : List gb_Sh) (b1 : Nat) : Nat → gb_G → Int32 → Int32 → Int32 → Option (gb_G × Int32)
  | 0, _, _, _, _ => none
  | n + 1, g, y2, y3, y4 => if y3 ≤ y4 then (f_X6_walk_98 sh b1 g y2 y3) else (if 256 ≤ y4 then (f_X6_walk_98 sh b1 g y2 y3) else (f_X6_walk_26 sh b1 (fun w w0 w1 w2 => f_X6_walk_9 sh b1 n w w0 w1 w2) gb_N g y2 y3 y4 0))
noncomputable def f_X6_walk (sh : List gb_Sh) (g : gb_G) (b1 : Nat) (x2 : Int32) : Option (gb_G × Int32) := gb_bd (f_X6_loadPlaces sh g b1) (fun r1 => f_X6_walk_9 sh b1 gb_N r1.1 x2 r1.2 1)
set_option maxRecDepth 100000 in
set_option maxHeartbeats 4000000 in
theorem t_X6_walk_123 {Γ : gb_X} {sh : List gb_Sh} {b1 : Nat} {out : gb_G × Int32} (hS : gb_S sh) (h_b1 : gb_okX0 sh b1) : ∀ (n : Nat) (g : gb_G) (y4 : Int32) (y5 : Int32) (y6 : Int32) (y7 : Int32), f_X6_walk_123 sh b1 n g y4 y5 y6 y7 = some out → gb_J Γ M_X6_walk 5 (gb_Ri sh out) 0 0 sh g 123 [(0, .ref 63), (4, .int y4), (5, .int y5), (6, .int y6), (7, .int y7)] [] := by
  intro n
  induction n with
  | zero => intro g y4 y5 y6 y7 h; cases h
  | succ n ih =>
    intro g y4 y5 y6 y7 h
    rw [f_X6_walk_123] at h
    refine gb_iload d_X6_walk_123 rfl ?_
    refine gb_bipush 8 d_X6_walk_125 rfl ?_
    refine gb_icmp_ge 191 d_X6_walk_127 (by decide) (fun hc => ?_) (fun hc => ?_)
    · have h := gb_it hc h
      refine gb_iload d_X6_walk_191 rfl ?_
      cases h
      exact gb_iret d_X6_walk_193 rfl ⟨rfl, rfl, rfl⟩
    · have h := gb_if hc h
      refine gb_iload d_X6_walk_130 rfl ?_
      refine gb_if_eq 191 d_X6_walk_132 (by decide) (fun hc => ?_) (fun hc => ?_)
      · have h := gb_it hc h
        refine gb_iload d_X6_walk_191 rfl ?_
        cases h
        exact gb_iret d_X6_walk_193 rfl ⟨rfl, rfl, rfl⟩
      · have h := gb_if hc h
        refine gb_aload_n d_X6_walk_135 rfl ?_
        refine gb_iload d_X6_walk_136 rfl ?_
        refine gb_iload d_X6_walk_138 rfl ?_
        obtain ⟨r6, e7, h⟩ := gb_bd_e h
        refine gb_cVi (As := [.int y5, .int y6]) (rest := []) m_X6_119 (t_X6_shortest (Γ := Γ) hS e7) (hS 63 _ rfl) rfl (Nat.le_of_ble_eq_true rfl) rfl rfl (Nat.le_of_ble_eq_true rfl) d_X6_walk_140 ?_
        refine gb_bipush 8 d_X6_walk_143 rfl ?_
        refine gb_rem_ d_X6_walk_145 (by decide) ?_
        refine gb_istore [(8, .int (gb_rem r6.2 8)), (0, .ref 63), (4, .int y4), (5, .int y5), (6, .int y6), (7, .int y7)] d_X6_walk_146 (Nat.le_of_ble_eq_true rfl) rfl ?_
        refine gb_aload_n d_X6_walk_148 rfl ?_
        refine gb_getr (r := 71) f_X6_33 (hS 63 _ rfl) rfl d_X6_walk_149 ?_
        refine gb_iload d_X6_walk_152 rfl ?_
        refine gb_iload d_X6_walk_154 rfl ?_
        obtain ⟨hi8, h⟩ := gb_ck_e h
        refine gb_iast_ y7.toNatClampNeg rfl (hS 71 _ rfl) hi8 d_X6_walk_156 ?_
        have h := gb_let_e h
        generalize gb_pi r6.1 71 y7.toNatClampNeg (gb_rem r6.2 8) = g9 at h ⊢
        refine gb_aload_n d_X6_walk_157 rfl ?_
        refine gb_iload d_X6_walk_158 rfl ?_
        refine gb_iconst 1 d_X6_walk_160 rfl ?_
        refine gb_iadd d_X6_walk_161 ?_
        refine gb_puti f_X6_36 (fun h => nomatch h) (hS 63 _ rfl) rfl rfl rfl d_X6_walk_162 ?_
        have h := gb_let_e h
        generalize gb_pi g9 63 10 (y7 + 1) = g10 at h ⊢
        refine gb_aload_n d_X6_walk_165 rfl ?_
        refine gb_getr (r := 70) f_X6_30 (hS 63 _ rfl) rfl d_X6_walk_166 ?_
        refine gb_iload d_X6_walk_169 rfl ?_
        obtain ⟨hi11, h⟩ := gb_ck_e h
        refine gb_iald_ ((gb_rem r6.2 8).toNatClampNeg) rfl (hS 70 _ rfl) hi11 d_X6_walk_171 ?_
        refine gb_istore [(5, .int (g10.1 70 ((gb_rem r6.2 8).toNatClampNeg))), (8, .int (gb_rem r6.2 8)), (0, .ref 63), (4, .int y4), (6, .int y6), (7, .int y7)] d_X6_walk_172 (Nat.le_of_ble_eq_true rfl) rfl ?_
        refine gb_iload d_X6_walk_174 rfl ?_
        refine gb_iconst 1 d_X6_walk_176 rfl ?_
        refine gb_iload d_X6_walk_177 rfl ?_
        refine gb_ishl d_X6_walk_179 ?_
        refine gb_iconst (-1) d_X6_walk_180 rfl ?_
        refine gb_ixor d_X6_walk_181 ?_
        refine gb_iand d_X6_walk_182 ?_
        refine gb_istore [(6, .int (y6 &&& (((1 : Int32) <<< ((gb_rem r6.2 8) &&& 31)) ^^^ (-1)))), (5, .int (g10.1 70 ((gb_rem r6.2 8).toNatClampNeg))), (8, .int (gb_rem r6.2 8)), (0, .ref 63), (4, .int y4), (7, .int y7)] d_X6_walk_183 (Nat.le_of_ble_eq_true rfl) rfl ?_
        refine gb_iinc (y7 + 1) [(7, .int (y7 + 1)), (6, .int (y6 &&& (((1 : Int32) <<< ((gb_rem r6.2 8) &&& 31)) ^^^ (-1)))), (5, .int (g10.1 70 ((gb_rem r6.2 8).toNatClampNeg))), (8, .int (gb_rem r6.2 8)), (0, .ref 63), (4, .int y4)] d_X6_walk_185 (Nat.le_of_ble_eq_true rfl) rfl rfl rfl ?_
        refine gb_goto 123 d_X6_walk_188 (by decide) ?_
        refine gb_pick (lv' := [(0, .ref 63), (4, .int y4), (5, .int (g10.1 70 ((gb_rem r6.2 8).toNatClampNeg))), (6, .int (y6 &&& (((1 : Int32) <<< ((gb_rem r6.2 8) &&& 31)) ^^^ (-1)))), (7, .int (y7 + 1))]) [4, 5, 2, 1, 0] rfl ?_
        exact ih _ y4 (g10.1 70 ((gb_rem r6.2 8).toNatClampNeg)) (y6 &&& (((1 : Int32) <<< ((gb_rem r6.2 8) &&& 31)) ^^^ (-1))) (y7 + 1) h
set_option maxRecDepth 100000 in
set_option maxHeartbeats 4000000 in
theorem t_X6_walk_98 {Γ : gb_X} {sh : List gb_Sh} {b1 : Nat} {out : gb_G × Int32} (hS : gb_S sh) (h_b1 : gb_okX0 sh b1) : ∀ (g : gb_G) (y2 : Int32) (y3 : Int32), f_X6_walk_98 sh b1 g y2 y3 = some out → gb_J Γ M_X6_walk 5 (gb_Ri sh out) 0 0 sh g 98 [(0, .ref 63), (2, .int y2), (3, .int y3)] [] := by
  intro g y2 y3 h
  unfold f_X6_walk_98 at h
  refine gb_aload_n d_X6_walk_98 rfl ?_
  refine gb_iconst 0 d_X6_walk_99 rfl ?_
  refine gb_puti f_X6_36 (fun h => nomatch h) (hS 63 _ rfl) rfl rfl rfl d_X6_walk_100 ?_
  have h := gb_let_e h
  generalize gb_pi g 63 10 0 = g3 at h ⊢
  refine gb_aload_n d_X6_walk_103 rfl ?_
  refine gb_iload_n d_X6_walk_104 rfl ?_
  refine gb_iload_n d_X6_walk_105 rfl ?_
  obtain ⟨r4, e5, h⟩ := gb_bd_e h
  refine gb_cVi (As := [.int y2, .int y3]) (rest := []) m_X6_119 (t_X6_shortest (Γ := Γ) hS e5) (hS 63 _ rfl) rfl (Nat.le_of_ble_eq_true rfl) rfl rfl (Nat.le_of_ble_eq_true rfl) d_X6_walk_106 ?_
  refine gb_bipush 8 d_X6_walk_109 rfl ?_
  refine gb_idiv d_X6_walk_111 (by decide) ?_
  refine gb_istore [(4, .int (r4.2 / 8)), (0, .ref 63), (2, .int y2), (3, .int y3)] d_X6_walk_112 (Nat.le_of_ble_eq_true rfl) rfl ?_
  refine gb_iload_n d_X6_walk_114 rfl ?_
  refine gb_istore [(5, .int y2), (4, .int (r4.2 / 8)), (0, .ref 63), (2, .int y2), (3, .int y3)] d_X6_walk_115 (Nat.le_of_ble_eq_true rfl) rfl ?_
  refine gb_iload_n d_X6_walk_117 rfl ?_
  refine gb_istore [(6, .int y3), (5, .int y2), (4, .int (r4.2 / 8)), (0, .ref 63), (2, .int y2), (3, .int y3)] d_X6_walk_118 (Nat.le_of_ble_eq_true rfl) rfl ?_
  refine gb_iconst 0 d_X6_walk_120 rfl ?_
  refine gb_istore [(7, .int 0), (6, .int y3), (5, .int y2), (4, .int (r4.2 / 8)), (0, .ref 63), (2, .int y2), (3, .int y3)] d_X6_walk_121 (Nat.le_of_ble_eq_true rfl) rfl ?_
  refine gb_pick (lv' := [(0, .ref 63), (4, .int (r4.2 / 8)), (5, .int y2), (6, .int y3), (7, .int 0)]) [4, 3, 2, 1, 0] rfl ?_
  exact t_X6_walk_123 hS h_b1  gb_N _ (r4.2 / 8) y2 y3 0 h
set_option maxRecDepth 100000 in
set_option maxHeartbeats 4000000 in
theorem t_X6_walk_92 {Γ : gb_X} {sh : List gb_Sh} {b1 : Nat} {out : gb_G × Int32} (hS : gb_S sh) (h_b1 : gb_okX0 sh b1) {K9 : gb_G → Int32 → Int32 → Int32 → Option (gb_G × Int32)} (hK9 : ∀ (g : gb_G) (y2 : Int32) (y3 : Int32) (y4 : Int32), K9 g y2 y3 y4 = some out → gb_J Γ M_X6_walk 5 (gb_Ri sh out) 0 0 sh g 9 [(0, .ref 63), (2, .int y2), (3, .int y3), (4, .int y4)] []) : ∀ (g : gb_G) (y2 : Int32) (y3 : Int32) (y4 : Int32), f_X6_walk_92 sh b1 K9 g y2 y3 y4 = some out → gb_J Γ M_X6_walk 5 (gb_Ri sh out) 0 0 sh g 92 [(0, .ref 63), (2, .int y2), (3, .int y3), (4, .int y4)] [] := by
  intro g y2 y3 y4 h
  unfold f_X6_walk_92 at h
  refine gb_iinc (y4 + 1) [(4, .int (y4 + 1)), (0, .ref 63), (2, .int y2), (3, .int y3)] d_X6_walk_92 (Nat.le_of_ble_eq_true rfl) rfl rfl rfl ?_
  refine gb_goto 9 d_X6_walk_95 (by decide) ?_
  refine gb_pick (lv' := [(0, .ref 63), (2, .int y2), (3, .int y3), (4, .int (y4 + 1))]) [1, 2, 3, 0] rfl ?_
  exact hK9 _ y2 y3 (y4 + 1) h
set_option maxRecDepth 100000 in
set_option maxHeartbeats 4000000 in
theorem t_X6_walk_86 {Γ : gb_X} {sh : List gb_Sh} {b1 : Nat} {out : gb_G × Int32} (hS : gb_S sh) (h_b1 : gb_okX0 sh b1) {K26 : gb_G → Int32 → Int32 → Int32 → Int32 → Option (gb_G × Int32)} (hK26 : ∀ (g : gb_G) (y2 : Int32) (y3 : Int32) (y4 : Int32) (y5 : Int32), K26 g y2 y3 y4 y5 = some out → gb_J Γ M_X6_walk 5 (gb_Ri sh out) 0 0 sh g 26 [(0, .ref 63), (2, .int y2), (3, .int y3), (4, .int y4), (5, .int y5)] []) : ∀ (g : gb_G) (y2 : Int32) (y3 : Int32) (y4 : Int32) (y5 : Int32), f_X6_walk_86 sh b1 K26 g y2 y3 y4 y5 = some out → gb_J Γ M_X6_walk 5 (gb_Ri sh out) 0 0 sh g 86 [(0, .ref 63), (2, .int y2), (3, .int y3), (4, .int y4), (5, .int y5)] [] := by
  intro g y2 y3 y4 y5 h
  unfold f_X6_walk_86 at h
  refine gb_iinc (y5 + 1) [(5, .int (y5 + 1)), (0, .ref 63), (2, .int y2), (3, .int y3), (4, .int y4)] d_X6_walk_86 (Nat.le_of_ble_eq_true rfl) rfl rfl rfl ?_
  refine gb_goto 26 d_X6_walk_89 (by decide) ?_
  refine gb_pick (lv' := [(0, .ref 63), (2, .int y2), (3, .int y3), (4, .int y4), (5, .int (y5 + 1))]) [1, 2, 3, 4, 0] rfl ?_
  exact hK26 _ y2 y3 y4 (y5 + 1) h
set_option maxRecDepth 100000 in
set_option maxHeartbeats 4000000 in
theorem t_X6_walk_26 {Γ : gb_X} {sh : List gb_Sh} {b1 : Nat} {out : gb_G × Int32} (hS : gb_S sh) (h_b1 : gb_okX0 sh b1) {K9 : gb_G → Int32 → Int32 → Int32 → Option (gb_G × Int32)} (hK9 : ∀ (g : gb_G) (y2 : Int32) (y3 : Int32) (y4 : Int32), K9 g y2 y3 y4 = some out → gb_J Γ M_X6_walk 5 (gb_Ri sh out) 0 0 sh g 9 [(0, .ref 63), (2, .int y2), (3, .int y3), (4, .int y4)] []) : ∀ (n : Nat) (g : gb_G) (y2 : Int32) (y3 : Int32) (y4 : Int32) (y5 : Int32), f_X6_walk_26 sh b1 K9 n g y2 y3 y4 y5 = some out → gb_J Γ M_X6_walk 5 (gb_Ri sh out) 0 0 sh g 26 [(0, .ref 63), (2, .int y2), (3, .int y3), (4, .int y4), (5, .int y5)] [] := by
  intro n
  induction n with
  | zero => intro g y2 y3 y4 y5 h; cases h
  | succ n ih =>
    intro g y2 y3 y4 y5 h
    rw [f_X6_walk_26] at h
    refine gb_iload d_X6_walk_26 rfl ?_
    refine gb_bipush 8 d_X6_walk_28 rfl ?_
    refine gb_icmp_ge 92 d_X6_walk_30 (by decide) (fun hc => ?_) (fun hc => ?_)
    · have h := gb_it hc h
      refine gb_pick (lv' := [(0, .ref 63), (2, .int y2), (3, .int y3), (4, .int y4)]) [0, 1, 2, 3] rfl ?_
      exact t_X6_walk_92 hS h_b1 hK9 _ y2 y3 y4 h
    · have h := gb_if hc h
      refine gb_iload d_X6_walk_33 rfl ?_
      refine gb_iload_n d_X6_walk_35 rfl ?_
      refine gb_iand d_X6_walk_36 ?_
      refine gb_iload d_X6_walk_37 rfl ?_
      refine gb_icmp_ne 92 d_X6_walk_39 (by decide) (fun hc => ?_) (fun hc => ?_)
      · have h := gb_if hc h
        refine gb_pick (lv' := [(0, .ref 63), (2, .int y2), (3, .int y3), (4, .int y4)]) [0, 1, 2, 3] rfl ?_
        exact t_X6_walk_92 hS h_b1 hK9 _ y2 y3 y4 h
      · have h := gb_it hc h
        refine gb_iload_n d_X6_walk_42 rfl ?_
        refine gb_iload d_X6_walk_43 rfl ?_
        refine gb_iconst (-1) d_X6_walk_45 rfl ?_
        refine gb_ixor d_X6_walk_46 ?_
        refine gb_iand d_X6_walk_47 ?_
        refine gb_iload d_X6_walk_48 rfl ?_
        refine gb_ishr d_X6_walk_50 ?_
        refine gb_iconst 1 d_X6_walk_51 rfl ?_
        refine gb_iand d_X6_walk_52 ?_
        refine gb_iconst 1 d_X6_walk_53 rfl ?_
        refine gb_icmp_ne 86 d_X6_walk_54 (by decide) (fun hc => ?_) (fun hc => ?_)
        · have h := gb_if hc h
          exact t_X6_walk_86 hS h_b1 (fun w w0 w1 w2 w3 hw => ih w w0 w1 w2 w3 hw) _ y2 y3 y4 y5 h
        · have h := gb_it hc h
          refine gb_aload_n d_X6_walk_57 rfl ?_
          refine gb_getr (r := 69) f_X6_27 (hS 63 _ rfl) rfl d_X6_walk_58 ?_
          refine gb_iload d_X6_walk_61 rfl ?_
          refine gb_bipush 8 d_X6_walk_63 rfl ?_
          refine gb_imul d_X6_walk_65 ?_
          refine gb_iload d_X6_walk_66 rfl ?_
          refine gb_iadd d_X6_walk_68 ?_
          refine gb_aload_n d_X6_walk_69 rfl ?_
          refine gb_aload_n d_X6_walk_70 rfl ?_
          refine gb_getr (r := 70) f_X6_30 (hS 63 _ rfl) rfl d_X6_walk_71 ?_
          refine gb_iload d_X6_walk_74 rfl ?_
          obtain ⟨hi12, h⟩ := gb_ck_e h
          refine gb_iald_ y5.toNatClampNeg rfl (hS 70 _ rfl) hi12 d_X6_walk_76 ?_
          refine gb_iload d_X6_walk_77 rfl ?_
          obtain ⟨r13, e14, h⟩ := gb_bd_e h
          refine gb_cVi (As := [.int (g.1 70 y5.toNatClampNeg), .int y4]) (rest := [.int ((y4 * 8) + y5), .ref 69]) m_X6_119 (t_X6_shortest (Γ := Γ) hS e14) (hS 63 _ rfl) rfl (Nat.le_of_ble_eq_true rfl) rfl rfl (Nat.le_of_ble_eq_true rfl) d_X6_walk_79 ?_
          refine gb_bipush 8 d_X6_walk_82 rfl ?_
          refine gb_idiv d_X6_walk_84 (by decide) ?_
          obtain ⟨hi15, h⟩ := gb_ck_e h
          refine gb_iast_ (((y4 * 8) + y5).toNatClampNeg) rfl (hS 69 _ rfl) hi15 d_X6_walk_85 ?_
          have h := gb_let_e h
          generalize gb_pi r13.1 69 (((y4 * 8) + y5).toNatClampNeg) (r13.2 / 8) = g16 at h ⊢
          exact t_X6_walk_86 hS h_b1 (fun w w0 w1 w2 w3 hw => ih w w0 w1 w2 w3 hw) _ y2 y3 y4 y5 h
set_option maxRecDepth 100000 in
set_option maxHeartbeats 4000000 in
theorem t_X6_walk_9 {Γ : gb_X} {sh : List gb_Sh} {b1 : Nat} {out : gb_G × Int32} (hS : gb_S sh) (h_b1 : gb_okX0 sh b1) : ∀ (n : Nat) (g : gb_G) (y2 : Int32) (y3 : Int32) (y4 : Int32), f_X6_walk_9 sh b1 n g y2 y3 y4 = some out → gb_J Γ M_X6_walk 5 (gb_Ri sh out) 0 0 sh g 9 [(0, .ref 63), (2, .int y2), (3, .int y3), (4, .int y4)] [] := by
  intro n
  induction n with
  | zero => intro g y2 y3 y4 h; cases h
  | succ n ih =>
    intro g y2 y3 y4 h
    rw [f_X6_walk_9] at h
    refine gb_iload d_X6_walk_9 rfl ?_
    refine gb_iload_n d_X6_walk_11 rfl ?_
    refine gb_icmp_ge 98 d_X6_walk_12 (by decide) (fun hc => ?_) (fun hc => ?_)
    · have h := gb_it hc h
      refine gb_pick (lv' := [(0, .ref 63), (2, .int y2), (3, .int y3)]) [0, 1, 2] rfl ?_
      exact t_X6_walk_98 hS h_b1  _ y2 y3 h
    · have h := gb_if hc h
      refine gb_iload d_X6_walk_15 rfl ?_
      refine gb_sipush 256 d_X6_walk_17 rfl ?_
      refine gb_icmp_ge 98 d_X6_walk_20 (by decide) (fun hc => ?_) (fun hc => ?_)
      · have h := gb_it hc h
        refine gb_pick (lv' := [(0, .ref 63), (2, .int y2), (3, .int y3)]) [0, 1, 2] rfl ?_
        exact t_X6_walk_98 hS h_b1  _ y2 y3 h
      · have h := gb_if hc h
        refine gb_iconst 0 d_X6_walk_23 rfl ?_
        refine gb_istore [(5, .int 0), (0, .ref 63), (2, .int y2), (3, .int y3), (4, .int y4)] d_X6_walk_24 (Nat.le_of_ble_eq_true rfl) rfl ?_
        refine gb_pick (lv' := [(0, .ref 63), (2, .int y2), (3, .int y3), (4, .int y4), (5, .int 0)]) [1, 2, 3, 4, 0] rfl ?_
        exact t_X6_walk_26 hS h_b1 (fun w w0 w1 w2 hw => ih w w0 w1 w2 hw) gb_N _ y2 y3 y4 0 h
set_option maxRecDepth 100000 in
set_option maxHeartbeats 4000000 in
theorem t_X6_walk {Γ : gb_X} {sh : List gb_Sh} {b1 : Nat} {x2 : Int32} {out : gb_G × Int32} (hS : gb_S sh) (h_b1 : gb_okX0 sh b1) {g : gb_G} (h : f_X6_walk sh g b1 x2 = some out) : gb_C Γ M_X6_walk 5 0 0 sh g [.ref 63, .ref b1, .int x2] (gb_Ri sh out) := by
  refine gb_C.of rfl (Nat.le_of_ble_eq_true rfl) ?_
  refine gb_pick (lv' := [(0, .ref 63), (1, .ref b1), (2, .int x2)]) [0, 1, 2] rfl ?_
  unfold f_X6_walk at h
  refine gb_aload_n d_X6_walk_0 rfl ?_
  refine gb_aload_n d_X6_walk_1 rfl ?_
  obtain ⟨r1, e2, h⟩ := gb_bd_e h
  refine gb_cVi (As := [.ref b1]) (rest := []) m_X6_115 (t_X6_loadPlaces (Γ := Γ) hS h_b1 e2) (hS 63 _ rfl) rfl (Nat.le_of_ble_eq_true rfl) rfl rfl (Nat.le_of_ble_eq_true rfl) d_X6_walk_2 ?_
  refine gb_istore_n [(3, .int r1.2), (0, .ref 63), (1, .ref b1), (2, .int x2)] d_X6_walk_5 (Nat.le_of_ble_eq_true rfl) rfl ?_
  refine gb_iconst 1 d_X6_walk_6 rfl ?_
  refine gb_istore [(4, .int 1), (3, .int r1.2), (0, .ref 63), (1, .ref b1), (2, .int x2)] d_X6_walk_7 (Nat.le_of_ble_eq_true rfl) rfl ?_
  refine gb_pick (lv' := [(0, .ref 63), (2, .int x2), (3, .int r1.2), (4, .int 1)]) [2, 4, 1, 0] rfl ?_
  exact t_X6_walk_9 hS h_b1  gb_N _ x2 r1.2 1 h
-- X6_walkedTo
noncomputable def f_X6_walkedTo (sh : List gb_Sh) (g : gb_G) (x1 : Int32) : Option (gb_G × Int32) := gb_bd (f_J9_min_7cf53 sh g 8 (g.1 63 10)) (fun r1 => gb_bd (f_X10_within sh r1.1 x1 0 (r1.2 - 1)) (fun r3 => if r3.2 = 0 then (some (r3.1, (-1))) else (gb_ck x1 8 (some (r3.1, (r3.1.1 71 x1.toNatClampNeg))))))
set_option maxRecDepth 100000 in
set_option maxHeartbeats 4000000 in
theorem t_X6_walkedTo {Γ : gb_X} {sh : List gb_Sh} {x1 : Int32} {out : gb_G × Int32} (hS : gb_S sh) {g : gb_G} (h : f_X6_walkedTo sh g x1 = some out) : gb_C Γ M_X6_walkedTo 1 0 0 sh g [.ref 63, .int x1] (gb_Ri sh out) := by
  refine gb_C.of rfl (Nat.le_of_ble_eq_true rfl) ?_
  refine gb_pick (lv' := [(0, .ref 63), (1, .int x1)]) [0, 1] rfl ?_
  unfold f_X6_walkedTo at h
  refine gb_iload_n d_X6_walkedTo_0 rfl ?_
  refine gb_iconst 0 d_X6_walkedTo_1 rfl ?_
  refine gb_bipush 8 d_X6_walkedTo_2 rfl ?_
  refine gb_aload_n d_X6_walkedTo_4 rfl ?_
  refine gb_geti f_X6_36 (hS 63 _ rfl) rfl d_X6_walkedTo_5 ?_
  obtain ⟨r1, e2, h⟩ := gb_bd_e h
  refine gb_cSi (As := [.int 8, .int (g.1 63 10)]) (rest := [.int 0, .int x1]) m_X6_92 (t_J9_min_7cf53 (Γ := Γ) hS e2) (Nat.le_of_ble_eq_true rfl) rfl rfl (Nat.le_of_ble_eq_true rfl) d_X6_walkedTo_8 ?_
  refine gb_iconst 1 d_X6_walkedTo_11 rfl ?_
  refine gb_isub d_X6_walkedTo_12 ?_
  obtain ⟨r3, e4, h⟩ := gb_bd_e h
  refine gb_cSNi (As := [.int x1, .int 0, .int (r1.2 - 1)]) (rest := []) m_X6_111 (t_X10_within (Γ := Γ) hS e4) (Nat.le_of_ble_eq_true rfl) rfl rfl (Nat.le_of_ble_eq_true rfl) d_X6_walkedTo_13 ?_
  refine gb_if_eq 28 d_X6_walkedTo_16 (by decide) (fun hc => ?_) (fun hc => ?_)
  · have h := gb_it hc h
    refine gb_iconst (-1) d_X6_walkedTo_28 rfl ?_
    cases h
    exact gb_iret d_X6_walkedTo_29 rfl ⟨rfl, rfl, rfl⟩
  · have h := gb_if hc h
    refine gb_aload_n d_X6_walkedTo_19 rfl ?_
    refine gb_getr (r := 71) f_X6_33 (hS 63 _ rfl) rfl d_X6_walkedTo_20 ?_
    refine gb_iload_n d_X6_walkedTo_23 rfl ?_
    obtain ⟨hi5, h⟩ := gb_ck_e h
    refine gb_iald_ x1.toNatClampNeg rfl (hS 71 _ rfl) hi5 d_X6_walkedTo_24 ?_
    refine gb_goto 29 d_X6_walkedTo_25 (by decide) ?_
    cases h
    exact gb_iret d_X6_walkedTo_29 rfl ⟨rfl, rfl, rfl⟩
-- X6_seekSets
noncomputable def f_X6_seekSets_158 (sh : List gb_Sh) (b1 : Nat) (K24 : gb_G → Int32 → Int32 → Int32 → Int32 → Option (gb_G × Int32)) (g : gb_G) (y2 : Int32) (y3 : Int32) (y4 : Int32) (y5 : Int32) : Option (gb_G × Int32) := K24 g y2 y3 y4 (y5 + 1)
noncomputable def f_X6_seekSets_116 (sh : List gb_Sh) (b1 : Nat) (K55 : gb_G → Int32 → Int32 → Int32 → Int32 → Int32 → Int32 → Int32 → Int32 → Option (gb_G × Int32)) (g : gb_G) (y2 : Int32) (y3 : Int32) (y4 : Int32) (y5 : Int32) (y6 : Int32) (y7 : Int32) (y8 : Int32) (y9 : Int32) : Option (gb_G × Int32) := K55 g y2 y3 y4 y5 y6 y7 y8 (y9 + 1)
noncomputable def f_X6_seekSets_113 (sh : List gb_Sh) (b1 : Nat) (K116 : gb_G → Int32 → Int32 → Int32 → Int32 → Int32 → Int32 → Int32 → Int32 → Option (gb_G × Int32)) (g : gb_G) (y2 : Int32) (y3 : Int32) (y4 : Int32) (y5 : Int32) (y6 : Int32) (y7 : Int32) (y9 : Int32) (z0 : Int32) (z1 : Int32) : Option (gb_G × Int32) := K116 g y2 y3 y4 y5 y6 y7 (z1 &&& z0) y9
noncomputable def f_X6_seekSets_55 (sh : List gb_Sh) (b1 : Nat) (K24 : gb_G → Int32 → Int32 → Int32 → Int32 → Option (gb_G × Int32)) : Nat → gb_G → Int32 → Int32 → Int32 → Int32 → Int32 → Int32 → Int32 → Int32 → Option (gb_G × Int32)
  | 0, _, _, _, _, _, _, _, _, _ => none
  | n + 1, g, y2, y3, y4, y5, y6, y7, y8, y9 => if y4 ≤ y9 then (if y8 = 0 then (f_X6_seekSets_158 sh b1 K24 g y2 y3 y4 y5) else (if y6 = 0 then (if y7 = 0 then (gb_ck (g.1 63 12) 256 (gb_let (gb_pi g 72 ((g.1 63 12).toNatClampNeg) y5) (fun g7 => gb_let (gb_pi g7 63 12 ((g7.1 63 12) + 1)) (fun g8 => f_X6_seekSets_158 sh b1 K24 g8 y2 y3 y4 y5)))) else (f_X6_seekSets_158 sh b1 K24 g y2 y3 y4 y5)) else (f_X6_seekSets_158 sh b1 K24 g y2 y3 y4 y5))) else (if ((y5 >>> (y9 &&& 31)) &&& 1) = 1 then (gb_ck y9 8 (gb_ck y9 8 (gb_bd (f_X0_lacks sh g b1 y9) (fun r11 => if r11.2 = 0 then (f_X6_seekSets_113 sh b1 (fun w w0 w1 w2 w3 w4 w5 w6 w7 => f_X6_seekSets_116 sh b1 (fun w w0 w1 w2 w3 w4 w5 w6 w7 => f_X6_seekSets_55 sh b1 K24 n w w0 w1 w2 w3 w4 w5 w6 w7) w w0 w1 w2 w3 w4 w5 w6 w7) r11.1 y2 y3 y4 y5 (y6 - (g.1 66 y9.toNatClampNeg)) (y7 - (g.1 67 y9.toNatClampNeg)) y9 1 y8) else (f_X6_seekSets_113 sh b1 (fun w w0 w1 w2 w3 w4 w5 w6 w7 => f_X6_seekSets_116 sh b1 (fun w w0 w1 w2 w3 w4 w5 w6 w7 => f_X6_seekSets_55 sh b1 K24 n w w0 w1 w2 w3 w4 w5 w6 w7) w w0 w1 w2 w3 w4 w5 w6 w7) r11.1 y2 y3 y4 y5 (y6 - (g.1 66 y9.toNatClampNeg)) (y7 - (g.1 67 y9.toNatClampNeg)) y9 0 y8))))) else (f_X6_seekSets_116 sh b1 (fun w w0 w1 w2 w3 w4 w5 w6 w7 => f_X6_seekSets_55 sh b1 K24 n w w0 w1 w2 w3 w4 w5 w6 w7) g y2 y3 y4 y5 y6 y7 y8 y9))
noncomputable def f_X6_seekSets_24 (sh : List gb_Sh) (b1 : Nat) : Nat → gb_G → Int32 → Int32 → Int32 → Int32 → Option (gb_G × Int32)
  | 0, _, _, _, _, _ => none
  | n + 1, g, y2, y3, y4, y5 => if ((1 : Int32) <<< (y4 &&& 31)) ≤ y5 then (some (g, (g.1 63 12))) else (if 256 ≤ (g.1 63 12) then (some (g, (g.1 63 12))) else (f_X6_seekSets_55 sh b1 (fun w w0 w1 w2 w3 => f_X6_seekSets_24 sh b1 n w w0 w1 w2 w3) gb_N g y2 y3 y4 y5 y2 y3 1 0))
noncomputable def f_X6_seekSets (sh : List gb_Sh) (g : gb_G) (b1 : Nat) (x2 : Int32) (x3 : Int32) : Option (gb_G × Int32) := gb_bd (f_X6_loadWares sh g b1) (fun r1 => gb_bd (f_J9_min_7cf53 sh r1 8 (r1.1 b1 0)) (fun r3 => gb_let (gb_pi r3.1 63 12 0) (fun g5 => f_X6_seekSets_24 sh b1 gb_N g5 x2 x3 r3.2 0)))
set_option maxRecDepth 100000 in
set_option maxHeartbeats 4000000 in
theorem t_X6_seekSets_158 {Γ : gb_X} {sh : List gb_Sh} {b1 : Nat} {out : gb_G × Int32} (hS : gb_S sh) (h_b1 : gb_okX0 sh b1) {K24 : gb_G → Int32 → Int32 → Int32 → Int32 → Option (gb_G × Int32)} (hK24 : ∀ (g : gb_G) (y2 : Int32) (y3 : Int32) (y4 : Int32) (y5 : Int32), K24 g y2 y3 y4 y5 = some out → gb_J Γ M_X6_seekSets 4 (gb_Ri sh out) 0 0 sh g 24 [(0, .ref 63), (1, .ref b1), (2, .int y2), (3, .int y3), (4, .int y4), (5, .int y5)] []) : ∀ (g : gb_G) (y2 : Int32) (y3 : Int32) (y4 : Int32) (y5 : Int32), f_X6_seekSets_158 sh b1 K24 g y2 y3 y4 y5 = some out → gb_J Γ M_X6_seekSets 4 (gb_Ri sh out) 0 0 sh g 158 [(0, .ref 63), (1, .ref b1), (2, .int y2), (3, .int y3), (4, .int y4), (5, .int y5)] [] := by
  intro g y2 y3 y4 y5 h
  unfold f_X6_seekSets_158 at h
  refine gb_iinc (y5 + 1) [(5, .int (y5 + 1)), (0, .ref 63), (1, .ref b1), (2, .int y2), (3, .int y3), (4, .int y4)] d_X6_seekSets_158 (Nat.le_of_ble_eq_true rfl) rfl rfl rfl ?_
  refine gb_goto 24 d_X6_seekSets_161 (by decide) ?_
  refine gb_pick (lv' := [(0, .ref 63), (1, .ref b1), (2, .int y2), (3, .int y3), (4, .int y4), (5, .int (y5 + 1))]) [1, 2, 3, 4, 5, 0] rfl ?_
  exact hK24 _ y2 y3 y4 (y5 + 1) h
set_option maxRecDepth 100000 in
set_option maxHeartbeats 4000000 in
theorem t_X6_seekSets_116 {Γ : gb_X} {sh : List gb_Sh} {b1 : Nat} {out : gb_G × Int32} (hS : gb_S sh) (h_b1 : gb_okX0 sh b1) {K55 : gb_G → Int32 → Int32 → Int32 → Int32 → Int32 → Int32 → Int32 → Int32 → Option (gb_G × Int32)} (hK55 : ∀ (g : gb_G) (y2 : Int32) (y3 : Int32) (y4 : Int32) (y5 : Int32) (y6 : Int32) (y7 : Int32) (y8 : Int32) (y9 : Int32), K55 g y2 y3 y4 y5 y6 y7 y8 y9 = some out → gb_J Γ M_X6_seekSets 4 (gb_Ri sh out) 0 0 sh g 55 [(0, .ref 63), (1, .ref b1), (2, .int y2), (3, .int y3), (4, .int y4), (5, .int y5), (6, .int y6), (7, .int y7), (8, .int y8), (9, .int y9)] []) : ∀ (g : gb_G) (y2 : Int32) (y3 : Int32) (y4 : Int32) (y5 : Int32) (y6 : Int32) (y7 : Int32) (y8 : Int32) (y9 : Int32), f_X6_seekSets_116 sh b1 K55 g y2 y3 y4 y5 y6 y7 y8 y9 = some out → gb_J Γ M_X6_seekSets 4 (gb_Ri sh out) 0 0 sh g 116 [(0, .ref 63), (1, .ref b1), (2, .int y2), (3, .int y3), (4, .int y4), (5, .int y5), (6, .int y6), (7, .int y7), (8, .int y8), (9, .int y9)] [] := by
  intro g y2 y3 y4 y5 y6 y7 y8 y9 h
  unfold f_X6_seekSets_116 at h
  refine gb_iinc (y9 + 1) [(9, .int (y9 + 1)), (0, .ref 63), (1, .ref b1), (2, .int y2), (3, .int y3), (4, .int y4), (5, .int y5), (6, .int y6), (7, .int y7), (8, .int y8)] d_X6_seekSets_116 (Nat.le_of_ble_eq_true rfl) rfl rfl rfl ?_
  refine gb_goto 55 d_X6_seekSets_119 (by decide) ?_
  refine gb_pick (lv' := [(0, .ref 63), (1, .ref b1), (2, .int y2), (3, .int y3), (4, .int y4), (5, .int y5), (6, .int y6), (7, .int y7), (8, .int y8), (9, .int (y9 + 1))]) [1, 2, 3, 4, 5, 6, 7, 8, 9, 0] rfl ?_
  exact hK55 _ y2 y3 y4 y5 y6 y7 y8 (y9 + 1) h
set_option maxRecDepth 100000 in
set_option maxHeartbeats 4000000 in
theorem t_X6_seekSets_113 {Γ : gb_X} {sh : List gb_Sh} {b1 : Nat} {out : gb_G × Int32} (hS : gb_S sh) (h_b1 : gb_okX0 sh b1) {K116 : gb_G → Int32 → Int32 → Int32 → Int32 → Int32 → Int32 → Int32 → Int32 → Option (gb_G × Int32)} (hK116 : ∀ (g : gb_G) (y2 : Int32) (y3 : Int32) (y4 : Int32) (y5 : Int32) (y6 : Int32) (y7 : Int32) (y8 : Int32) (y9 : Int32), K116 g y2 y3 y4 y5 y6 y7 y8 y9 = some out → gb_J Γ M_X6_seekSets 4 (gb_Ri sh out) 0 0 sh g 116 [(0, .ref 63), (1, .ref b1), (2, .int y2), (3, .int y3), (4, .int y4), (5, .int y5), (6, .int y6), (7, .int y7), (8, .int y8), (9, .int y9)] []) : ∀ (g : gb_G) (y2 : Int32) (y3 : Int32) (y4 : Int32) (y5 : Int32) (y6 : Int32) (y7 : Int32) (y9 : Int32) (z0 : Int32) (z1 : Int32), f_X6_seekSets_113 sh b1 K116 g y2 y3 y4 y5 y6 y7 y9 z0 z1 = some out → gb_J Γ M_X6_seekSets 4 (gb_Ri sh out) 0 0 sh g 113 [(0, .ref 63), (1, .ref b1), (2, .int y2), (3, .int y3), (4, .int y4), (5, .int y5), (6, .int y6), (7, .int y7), (9, .int y9)] [.int z0, .int z1] := by
  intro g y2 y3 y4 y5 y6 y7 y9 z0 z1 h
  unfold f_X6_seekSets_113 at h
  refine gb_iand d_X6_seekSets_113 ?_
  refine gb_istore [(8, .int (z1 &&& z0)), (0, .ref 63), (1, .ref b1), (2, .int y2), (3, .int y3), (4, .int y4), (5, .int y5), (6, .int y6), (7, .int y7), (9, .int y9)] d_X6_seekSets_114 (Nat.le_of_ble_eq_true rfl) rfl ?_
  refine gb_pick (lv' := [(0, .ref 63), (1, .ref b1), (2, .int y2), (3, .int y3), (4, .int y4), (5, .int y5), (6, .int y6), (7, .int y7), (8, .int (z1 &&& z0)), (9, .int y9)]) [1, 2, 3, 4, 5, 6, 7, 8, 0, 9] rfl ?_
  exact hK116 _ y2 y3 y4 y5 y6 y7 (z1 &&& z0) y9 h
set_option maxRecDepth 100000 in
set_option maxHeartbeats 4000000 in
theorem t_X6_seekSets_55 {Γ : gb_X} {sh : List gb_Sh} {b1 : Nat} {out : gb_G × Int32} (hS : gb_S sh) (h_b1 : gb_okX0 sh b1) {K24 : gb_G → Int32 → Int32 → Int32 → Int32 → Option (gb_G × Int32)} (hK24 : ∀ (g : gb_G) (y2 : Int32) (y3 : Int32) (y4 : Int32) (y5 : Int32), K24 g y2 y3 y4 y5 = some out → gb_J Γ M_X6_seekSets 4 (gb_Ri sh out) 0 0 sh g 24 [(0, .ref 63), (1, .ref b1), (2, .int y2), (3, .int y3), (4, .int y4), (5, .int y5)] []) : ∀ (n : Nat) (g : gb_G) (y2 : Int32) (y3 : Int32) (y4 : Int32) (y5 : Int32) (y6 : Int32) (y7 : Int32) (y8 : Int32) (y9 : Int32), f_X6_seekSets_55 sh b1 K24 n g y2 y3 y4 y5 y6 y7 y8 y9 = some out → gb_J Γ M_X6_seekSets 4 (gb_Ri sh out) 0 0 sh g 55 [(0, .ref 63), (1, .ref b1), (2, .int y2), (3, .int y3), (4, .int y4), (5, .int y5), (6, .int y6), (7, .int y7), (8, .int y8), (9, .int y9)] [] := by
  intro n
  induction n with
  | zero => intro g y2 y3 y4 y5 y6 y7 y8 y9 h; cases h
  | succ n ih =>
    intro g y2 y3 y4 y5 y6 y7 y8 y9 h
    rw [f_X6_seekSets_55] at h
    refine gb_iload d_X6_seekSets_55 rfl ?_
    refine gb_iload d_X6_seekSets_57 rfl ?_
    refine gb_icmp_ge 122 d_X6_seekSets_59 (by decide) (fun hc => ?_) (fun hc => ?_)
    · have h := gb_it hc h
      refine gb_iload d_X6_seekSets_122 rfl ?_
      refine gb_if_eq 158 d_X6_seekSets_124 (by decide) (fun hc => ?_) (fun hc => ?_)
      · have h := gb_it hc h
        refine gb_pick (lv' := [(0, .ref 63), (1, .ref b1), (2, .int y2), (3, .int y3), (4, .int y4), (5, .int y5)]) [0, 1, 2, 3, 4, 5] rfl ?_
        exact t_X6_seekSets_158 hS h_b1 hK24 _ y2 y3 y4 y5 h
      · have h := gb_if hc h
        refine gb_iload d_X6_seekSets_127 rfl ?_
        refine gb_if_ne 158 d_X6_seekSets_129 (by decide) (fun hc => ?_) (fun hc => ?_)
        · have h := gb_if hc h
          refine gb_pick (lv' := [(0, .ref 63), (1, .ref b1), (2, .int y2), (3, .int y3), (4, .int y4), (5, .int y5)]) [0, 1, 2, 3, 4, 5] rfl ?_
          exact t_X6_seekSets_158 hS h_b1 hK24 _ y2 y3 y4 y5 h
        · have h := gb_it hc h
          refine gb_iload d_X6_seekSets_132 rfl ?_
          refine gb_if_ne 158 d_X6_seekSets_134 (by decide) (fun hc => ?_) (fun hc => ?_)
          · have h := gb_if hc h
            refine gb_pick (lv' := [(0, .ref 63), (1, .ref b1), (2, .int y2), (3, .int y3), (4, .int y4), (5, .int y5)]) [0, 1, 2, 3, 4, 5] rfl ?_
            exact t_X6_seekSets_158 hS h_b1 hK24 _ y2 y3 y4 y5 h
          · have h := gb_it hc h
            refine gb_aload_n d_X6_seekSets_137 rfl ?_
            refine gb_getr (r := 72) f_X6_40 (hS 63 _ rfl) rfl d_X6_seekSets_138 ?_
            refine gb_aload_n d_X6_seekSets_141 rfl ?_
            refine gb_geti f_X6_43 (hS 63 _ rfl) rfl d_X6_seekSets_142 ?_
            refine gb_iload d_X6_seekSets_145 rfl ?_
            obtain ⟨hi6, h⟩ := gb_ck_e h
            refine gb_iast_ ((g.1 63 12).toNatClampNeg) rfl (hS 72 _ rfl) hi6 d_X6_seekSets_147 ?_
            have h := gb_let_e h
            generalize gb_pi g 72 ((g.1 63 12).toNatClampNeg) y5 = g7 at h ⊢
            refine gb_aload_n d_X6_seekSets_148 rfl ?_
            refine gb_dup d_X6_seekSets_149 rfl ?_
            refine gb_geti f_X6_43 (hS 63 _ rfl) rfl d_X6_seekSets_150 ?_
            refine gb_iconst 1 d_X6_seekSets_153 rfl ?_
            refine gb_iadd d_X6_seekSets_154 ?_
            refine gb_puti f_X6_43 (fun h => nomatch h) (hS 63 _ rfl) rfl rfl rfl d_X6_seekSets_155 ?_
            have h := gb_let_e h
            generalize gb_pi g7 63 12 ((g7.1 63 12) + 1) = g8 at h ⊢
            refine gb_pick (lv' := [(0, .ref 63), (1, .ref b1), (2, .int y2), (3, .int y3), (4, .int y4), (5, .int y5)]) [0, 1, 2, 3, 4, 5] rfl ?_
            exact t_X6_seekSets_158 hS h_b1 hK24 _ y2 y3 y4 y5 h
    · have h := gb_if hc h
      refine gb_iload d_X6_seekSets_62 rfl ?_
      refine gb_iload d_X6_seekSets_64 rfl ?_
      refine gb_ishr d_X6_seekSets_66 ?_
      refine gb_iconst 1 d_X6_seekSets_67 rfl ?_
      refine gb_iand d_X6_seekSets_68 ?_
      refine gb_iconst 1 d_X6_seekSets_69 rfl ?_
      refine gb_icmp_ne 116 d_X6_seekSets_70 (by decide) (fun hc => ?_) (fun hc => ?_)
      · have h := gb_if hc h
        exact t_X6_seekSets_116 hS h_b1 (fun w w0 w1 w2 w3 w4 w5 w6 w7 hw => ih w w0 w1 w2 w3 w4 w5 w6 w7 hw) _ y2 y3 y4 y5 y6 y7 y8 y9 h
      · have h := gb_it hc h
        refine gb_iload d_X6_seekSets_73 rfl ?_
        refine gb_aload_n d_X6_seekSets_75 rfl ?_
        refine gb_getr (r := 66) f_X6_18 (hS 63 _ rfl) rfl d_X6_seekSets_76 ?_
        refine gb_iload d_X6_seekSets_79 rfl ?_
        obtain ⟨hi9, h⟩ := gb_ck_e h
        refine gb_iald_ y9.toNatClampNeg rfl (hS 66 _ rfl) hi9 d_X6_seekSets_81 ?_
        refine gb_isub d_X6_seekSets_82 ?_
        refine gb_istore [(6, .int (y6 - (g.1 66 y9.toNatClampNeg))), (0, .ref 63), (1, .ref b1), (2, .int y2), (3, .int y3), (4, .int y4), (5, .int y5), (7, .int y7), (8, .int y8), (9, .int y9)] d_X6_seekSets_83 (Nat.le_of_ble_eq_true rfl) rfl ?_
        refine gb_iload d_X6_seekSets_85 rfl ?_
        refine gb_aload_n d_X6_seekSets_87 rfl ?_
        refine gb_getr (r := 67) f_X6_21 (hS 63 _ rfl) rfl d_X6_seekSets_88 ?_
        refine gb_iload d_X6_seekSets_91 rfl ?_
        obtain ⟨hi10, h⟩ := gb_ck_e h
        refine gb_iald_ y9.toNatClampNeg rfl (hS 67 _ rfl) hi10 d_X6_seekSets_93 ?_
        refine gb_isub d_X6_seekSets_94 ?_
        refine gb_istore [(7, .int (y7 - (g.1 67 y9.toNatClampNeg))), (6, .int (y6 - (g.1 66 y9.toNatClampNeg))), (0, .ref 63), (1, .ref b1), (2, .int y2), (3, .int y3), (4, .int y4), (5, .int y5), (8, .int y8), (9, .int y9)] d_X6_seekSets_95 (Nat.le_of_ble_eq_true rfl) rfl ?_
        refine gb_iload d_X6_seekSets_97 rfl ?_
        refine gb_aload_n d_X6_seekSets_99 rfl ?_
        refine gb_iload d_X6_seekSets_100 rfl ?_
        obtain ⟨r11, e12, h⟩ := gb_bd_e h
        refine gb_cVi (As := [.int y9]) (rest := [.int y8]) m_X6_84 (t_X0_lacks (Γ := Γ) hS h_b1 e12) h_b1.1 rfl (Nat.le_of_ble_eq_true rfl) rfl rfl (Nat.le_of_ble_eq_true rfl) d_X6_seekSets_102 ?_
        refine gb_if_ne 112 d_X6_seekSets_105 (by decide) (fun hc => ?_) (fun hc => ?_)
        · have h := gb_if hc h
          refine gb_iconst 0 d_X6_seekSets_112 rfl ?_
          refine gb_pick (lv' := [(0, .ref 63), (1, .ref b1), (2, .int y2), (3, .int y3), (4, .int y4), (5, .int y5), (6, .int (y6 - (g.1 66 y9.toNatClampNeg))), (7, .int (y7 - (g.1 67 y9.toNatClampNeg))), (9, .int y9)]) [2, 3, 4, 5, 6, 7, 1, 0, 9] rfl ?_
          exact t_X6_seekSets_113 hS h_b1 (fun w w0 w1 w2 w3 w4 w5 w6 w7 hw => t_X6_seekSets_116 hS h_b1 (fun w w0 w1 w2 w3 w4 w5 w6 w7 hw => ih w w0 w1 w2 w3 w4 w5 w6 w7 hw) w w0 w1 w2 w3 w4 w5 w6 w7 hw) _ y2 y3 y4 y5 (y6 - (g.1 66 y9.toNatClampNeg)) (y7 - (g.1 67 y9.toNatClampNeg)) y9 0 y8 h
        · have h := gb_it hc h
          refine gb_iconst 1 d_X6_seekSets_108 rfl ?_
          refine gb_goto 113 d_X6_seekSets_109 (by decide) ?_
          refine gb_pick (lv' := [(0, .ref 63), (1, .ref b1), (2, .int y2), (3, .int y3), (4, .int y4), (5, .int y5), (6, .int (y6 - (g.1 66 y9.toNatClampNeg))), (7, .int (y7 - (g.1 67 y9.toNatClampNeg))), (9, .int y9)]) [2, 3, 4, 5, 6, 7, 1, 0, 9] rfl ?_
          exact t_X6_seekSets_113 hS h_b1 (fun w w0 w1 w2 w3 w4 w5 w6 w7 hw => t_X6_seekSets_116 hS h_b1 (fun w w0 w1 w2 w3 w4 w5 w6 w7 hw => ih w w0 w1 w2 w3 w4 w5 w6 w7 hw) w w0 w1 w2 w3 w4 w5 w6 w7 hw) _ y2 y3 y4 y5 (y6 - (g.1 66 y9.toNatClampNeg)) (y7 - (g.1 67 y9.toNatClampNeg)) y9 1 y8 h
set_option maxRecDepth 100000 in
set_option maxHeartbeats 4000000 in
theorem t_X6_seekSets_24 {Γ : gb_X} {sh : List gb_Sh} {b1 : Nat} {out : gb_G × Int32} (hS : gb_S sh) (h_b1 : gb_okX0 sh b1) : ∀ (n : Nat) (g : gb_G) (y2 : Int32) (y3 : Int32) (y4 : Int32) (y5 : Int32), f_X6_seekSets_24 sh b1 n g y2 y3 y4 y5 = some out → gb_J Γ M_X6_seekSets 4 (gb_Ri sh out) 0 0 sh g 24 [(0, .ref 63), (1, .ref b1), (2, .int y2), (3, .int y3), (4, .int y4), (5, .int y5)] [] := by
  intro n
  induction n with
  | zero => intro g y2 y3 y4 y5 h; cases h
  | succ n ih =>
    intro g y2 y3 y4 y5 h
    rw [f_X6_seekSets_24] at h
    refine gb_iload d_X6_seekSets_24 rfl ?_
    refine gb_iconst 1 d_X6_seekSets_26 rfl ?_
    refine gb_iload d_X6_seekSets_27 rfl ?_
    refine gb_ishl d_X6_seekSets_29 ?_
    refine gb_icmp_ge 164 d_X6_seekSets_30 (by decide) (fun hc => ?_) (fun hc => ?_)
    · have h := gb_it hc h
      refine gb_aload_n d_X6_seekSets_164 rfl ?_
      refine gb_geti f_X6_43 (hS 63 _ rfl) rfl d_X6_seekSets_165 ?_
      cases h
      exact gb_iret d_X6_seekSets_168 rfl ⟨rfl, rfl, rfl⟩
    · have h := gb_if hc h
      refine gb_aload_n d_X6_seekSets_33 rfl ?_
      refine gb_geti f_X6_43 (hS 63 _ rfl) rfl d_X6_seekSets_34 ?_
      refine gb_sipush 256 d_X6_seekSets_37 rfl ?_
      refine gb_icmp_ge 164 d_X6_seekSets_40 (by decide) (fun hc => ?_) (fun hc => ?_)
      · have h := gb_it hc h
        refine gb_aload_n d_X6_seekSets_164 rfl ?_
        refine gb_geti f_X6_43 (hS 63 _ rfl) rfl d_X6_seekSets_165 ?_
        cases h
        exact gb_iret d_X6_seekSets_168 rfl ⟨rfl, rfl, rfl⟩
      · have h := gb_if hc h
        refine gb_iload_n d_X6_seekSets_43 rfl ?_
        refine gb_istore [(6, .int y2), (0, .ref 63), (1, .ref b1), (2, .int y2), (3, .int y3), (4, .int y4), (5, .int y5)] d_X6_seekSets_44 (Nat.le_of_ble_eq_true rfl) rfl ?_
        refine gb_iload_n d_X6_seekSets_46 rfl ?_
        refine gb_istore [(7, .int y3), (6, .int y2), (0, .ref 63), (1, .ref b1), (2, .int y2), (3, .int y3), (4, .int y4), (5, .int y5)] d_X6_seekSets_47 (Nat.le_of_ble_eq_true rfl) rfl ?_
        refine gb_iconst 1 d_X6_seekSets_49 rfl ?_
        refine gb_istore [(8, .int 1), (7, .int y3), (6, .int y2), (0, .ref 63), (1, .ref b1), (2, .int y2), (3, .int y3), (4, .int y4), (5, .int y5)] d_X6_seekSets_50 (Nat.le_of_ble_eq_true rfl) rfl ?_
        refine gb_iconst 0 d_X6_seekSets_52 rfl ?_
        refine gb_istore [(9, .int 0), (8, .int 1), (7, .int y3), (6, .int y2), (0, .ref 63), (1, .ref b1), (2, .int y2), (3, .int y3), (4, .int y4), (5, .int y5)] d_X6_seekSets_53 (Nat.le_of_ble_eq_true rfl) rfl ?_
        refine gb_pick (lv' := [(0, .ref 63), (1, .ref b1), (2, .int y2), (3, .int y3), (4, .int y4), (5, .int y5), (6, .int y2), (7, .int y3), (8, .int 1), (9, .int 0)]) [4, 5, 6, 7, 8, 9, 3, 2, 1, 0] rfl ?_
        exact t_X6_seekSets_55 hS h_b1 (fun w w0 w1 w2 w3 hw => ih w w0 w1 w2 w3 hw) gb_N _ y2 y3 y4 y5 y2 y3 1 0 h
set_option maxRecDepth 100000 in
set_option maxHeartbeats 4000000 in
theorem t_X6_seekSets {Γ : gb_X} {sh : List gb_Sh} {b1 : Nat} {x2 : Int32} {x3 : Int32} {out : gb_G × Int32} (hS : gb_S sh) (h_b1 : gb_okX0 sh b1) {g : gb_G} (h : f_X6_seekSets sh g b1 x2 x3 = some out) : gb_C Γ M_X6_seekSets 4 0 0 sh g [.ref 63, .ref b1, .int x2, .int x3] (gb_Ri sh out) := by
  refine gb_C.of rfl (Nat.le_of_ble_eq_true rfl) ?_
  refine gb_pick (lv' := [(0, .ref 63), (1, .ref b1), (2, .int x2), (3, .int x3)]) [0, 1, 2, 3] rfl ?_
  unfold f_X6_seekSets at h
  refine gb_aload_n d_X6_seekSets_0 rfl ?_
  refine gb_aload_n d_X6_seekSets_1 rfl ?_
  obtain ⟨r1, e2, h⟩ := gb_bd_e h
  refine gb_cVv (As := [.ref b1]) (rest := []) m_X6_88 (t_X6_loadWares (Γ := Γ) hS h_b1 e2) (hS 63 _ rfl) rfl (Nat.le_of_ble_eq_true rfl) rfl rfl (Nat.le_of_ble_eq_true rfl) d_X6_seekSets_2 ?_
  refine gb_bipush 8 d_X6_seekSets_5 rfl ?_
  refine gb_aload_n d_X6_seekSets_7 rfl ?_
  refine gb_geti f_X6_71 h_b1.1 rfl d_X6_seekSets_8 ?_
  obtain ⟨r3, e4, h⟩ := gb_bd_e h
  refine gb_cSi (As := [.int 8, .int (r1.1 b1 0)]) (rest := []) m_X6_92 (t_J9_min_7cf53 (Γ := Γ) hS e4) (Nat.le_of_ble_eq_true rfl) rfl rfl (Nat.le_of_ble_eq_true rfl) d_X6_seekSets_11 ?_
  refine gb_istore [(4, .int r3.2), (0, .ref 63), (1, .ref b1), (2, .int x2), (3, .int x3)] d_X6_seekSets_14 (Nat.le_of_ble_eq_true rfl) rfl ?_
  refine gb_aload_n d_X6_seekSets_16 rfl ?_
  refine gb_iconst 0 d_X6_seekSets_17 rfl ?_
  refine gb_puti f_X6_43 (fun h => nomatch h) (hS 63 _ rfl) rfl rfl rfl d_X6_seekSets_18 ?_
  have h := gb_let_e h
  generalize gb_pi r3.1 63 12 0 = g5 at h ⊢
  refine gb_iconst 0 d_X6_seekSets_21 rfl ?_
  refine gb_istore [(5, .int 0), (4, .int r3.2), (0, .ref 63), (1, .ref b1), (2, .int x2), (3, .int x3)] d_X6_seekSets_22 (Nat.le_of_ble_eq_true rfl) rfl ?_
  refine gb_pick (lv' := [(0, .ref 63), (1, .ref b1), (2, .int x2), (3, .int x3), (4, .int r3.2), (5, .int 0)]) [2, 3, 4, 5, 1, 0] rfl ?_
  exact t_X6_seekSets_24 hS h_b1  gb_N _ x2 x3 r3.2 0 h
-- X6_setAt
noncomputable def f_X6_setAt (sh : List gb_Sh) (g : gb_G) (x1 : Int32) : Option (gb_G × Int32) := gb_bd (f_J9_min_7cf53 sh g 256 (g.1 63 12)) (fun r1 => gb_bd (f_X10_within sh r1.1 x1 0 (r1.2 - 1)) (fun r3 => if r3.2 = 0 then (some (r3.1, (-1))) else (gb_ck x1 256 (some (r3.1, (r3.1.1 72 x1.toNatClampNeg))))))
set_option maxRecDepth 100000 in
set_option maxHeartbeats 4000000 in
theorem t_X6_setAt {Γ : gb_X} {sh : List gb_Sh} {x1 : Int32} {out : gb_G × Int32} (hS : gb_S sh) {g : gb_G} (h : f_X6_setAt sh g x1 = some out) : gb_C Γ M_X6_setAt 1 0 0 sh g [.ref 63, .int x1] (gb_Ri sh out) := by
  refine gb_C.of rfl (Nat.le_of_ble_eq_true rfl) ?_
  refine gb_pick (lv' := [(0, .ref 63), (1, .int x1)]) [0, 1] rfl ?_
  unfold f_X6_setAt at h
  refine gb_iload_n d_X6_setAt_0 rfl ?_
  refine gb_iconst 0 d_X6_setAt_1 rfl ?_
  refine gb_sipush 256 d_X6_setAt_2 rfl ?_
  refine gb_aload_n d_X6_setAt_5 rfl ?_
  refine gb_geti f_X6_43 (hS 63 _ rfl) rfl d_X6_setAt_6 ?_
  obtain ⟨r1, e2, h⟩ := gb_bd_e h
  refine gb_cSi (As := [.int 256, .int (g.1 63 12)]) (rest := [.int 0, .int x1]) m_X6_92 (t_J9_min_7cf53 (Γ := Γ) hS e2) (Nat.le_of_ble_eq_true rfl) rfl rfl (Nat.le_of_ble_eq_true rfl) d_X6_setAt_9 ?_
  refine gb_iconst 1 d_X6_setAt_12 rfl ?_
  refine gb_isub d_X6_setAt_13 ?_
  obtain ⟨r3, e4, h⟩ := gb_bd_e h
  refine gb_cSNi (As := [.int x1, .int 0, .int (r1.2 - 1)]) (rest := []) m_X6_111 (t_X10_within (Γ := Γ) hS e4) (Nat.le_of_ble_eq_true rfl) rfl rfl (Nat.le_of_ble_eq_true rfl) d_X6_setAt_14 ?_
  refine gb_if_eq 29 d_X6_setAt_17 (by decide) (fun hc => ?_) (fun hc => ?_)
  · have h := gb_it hc h
    refine gb_iconst (-1) d_X6_setAt_29 rfl ?_
    cases h
    exact gb_iret d_X6_setAt_30 rfl ⟨rfl, rfl, rfl⟩
  · have h := gb_if hc h
    refine gb_aload_n d_X6_setAt_20 rfl ?_
    refine gb_getr (r := 72) f_X6_40 (hS 63 _ rfl) rfl d_X6_setAt_21 ?_
    refine gb_iload_n d_X6_setAt_24 rfl ?_
    obtain ⟨hi5, h⟩ := gb_ck_e h
    refine gb_iald_ x1.toNatClampNeg rfl (hS 72 _ rfl) hi5 d_X6_setAt_25 ?_
    refine gb_goto 30 d_X6_setAt_26 (by decide) ?_
    cases h
    exact gb_iret d_X6_setAt_30 rfl ⟨rfl, rfl, rfl⟩
-- X6_setsWith
noncomputable def f_X6_setsWith_4 (sh : List gb_Sh) : Nat → gb_G → Int32 → Int32 → Int32 → Option (gb_G × Int32)
  | 0, _, _, _, _ => none
  | n + 1, g, y1, y2, y3 => if (g.1 63 12) ≤ y3 then (some (g, y2)) else (if 256 ≤ y3 then (some (g, y2)) else (gb_ck y3 256 (f_X6_setsWith_4 sh n g y1 (y2 + (((g.1 72 y3.toNatClampNeg) >>> (y1 &&& 31)) &&& 1)) (y3 + 1))))
noncomputable def f_X6_setsWith (sh : List gb_Sh) (g : gb_G) (x1 : Int32) : Option (gb_G × Int32) := f_X6_setsWith_4 sh gb_N g x1 0 0
set_option maxRecDepth 100000 in
set_option maxHeartbeats 4000000 in
theorem t_X6_setsWith_4 {Γ : gb_X} {sh : List gb_Sh} {out : gb_G × Int32} (hS : gb_S sh) : ∀ (n : Nat) (g : gb_G) (y1 : Int32) (y2 : Int32) (y3 : Int32), f_X6_setsWith_4 sh n g y1 y2 y3 = some out → gb_J Γ M_X6_setsWith 0 (gb_Ri sh out) 0 0 sh g 4 [(0, .ref 63), (1, .int y1), (2, .int y2), (3, .int y3)] [] := by
  intro n
  induction n with
  | zero => intro g y1 y2 y3 h; cases h
  | succ n ih =>
    intro g y1 y2 y3 h
    rw [f_X6_setsWith_4] at h
    refine gb_iload_n d_X6_setsWith_4 rfl ?_
    refine gb_aload_n d_X6_setsWith_5 rfl ?_
    refine gb_geti f_X6_43 (hS 63 _ rfl) rfl d_X6_setsWith_6 ?_
    refine gb_icmp_ge 38 d_X6_setsWith_9 (by decide) (fun hc => ?_) (fun hc => ?_)
    · have h := gb_it hc h
      refine gb_iload_n d_X6_setsWith_38 rfl ?_
      cases h
      exact gb_iret d_X6_setsWith_39 rfl ⟨rfl, rfl, rfl⟩
    · have h := gb_if hc h
      refine gb_iload_n d_X6_setsWith_12 rfl ?_
      refine gb_sipush 256 d_X6_setsWith_13 rfl ?_
      refine gb_icmp_ge 38 d_X6_setsWith_16 (by decide) (fun hc => ?_) (fun hc => ?_)
      · have h := gb_it hc h
        refine gb_iload_n d_X6_setsWith_38 rfl ?_
        cases h
        exact gb_iret d_X6_setsWith_39 rfl ⟨rfl, rfl, rfl⟩
      · have h := gb_if hc h
        refine gb_iload_n d_X6_setsWith_19 rfl ?_
        refine gb_aload_n d_X6_setsWith_20 rfl ?_
        refine gb_getr (r := 72) f_X6_40 (hS 63 _ rfl) rfl d_X6_setsWith_21 ?_
        refine gb_iload_n d_X6_setsWith_24 rfl ?_
        obtain ⟨hi1, h⟩ := gb_ck_e h
        refine gb_iald_ y3.toNatClampNeg rfl (hS 72 _ rfl) hi1 d_X6_setsWith_25 ?_
        refine gb_iload_n d_X6_setsWith_26 rfl ?_
        refine gb_ishr d_X6_setsWith_27 ?_
        refine gb_iconst 1 d_X6_setsWith_28 rfl ?_
        refine gb_iand d_X6_setsWith_29 ?_
        refine gb_iadd d_X6_setsWith_30 ?_
        refine gb_istore_n [(2, .int (y2 + (((g.1 72 y3.toNatClampNeg) >>> (y1 &&& 31)) &&& 1))), (0, .ref 63), (1, .int y1), (3, .int y3)] d_X6_setsWith_31 (Nat.le_of_ble_eq_true rfl) rfl ?_
        refine gb_iinc (y3 + 1) [(3, .int (y3 + 1)), (2, .int (y2 + (((g.1 72 y3.toNatClampNeg) >>> (y1 &&& 31)) &&& 1))), (0, .ref 63), (1, .int y1)] d_X6_setsWith_32 (Nat.le_of_ble_eq_true rfl) rfl rfl rfl ?_
        refine gb_goto 4 d_X6_setsWith_35 (by decide) ?_
        refine gb_pick (lv' := [(0, .ref 63), (1, .int y1), (2, .int (y2 + (((g.1 72 y3.toNatClampNeg) >>> (y1 &&& 31)) &&& 1))), (3, .int (y3 + 1))]) [2, 3, 1, 0] rfl ?_
        exact ih _ y1 (y2 + (((g.1 72 y3.toNatClampNeg) >>> (y1 &&& 31)) &&& 1)) (y3 + 1) h
set_option maxRecDepth 100000 in
set_option maxHeartbeats 4000000 in
theorem t_X6_setsWith {Γ : gb_X} {sh : List gb_Sh} {x1 : Int32} {out : gb_G × Int32} (hS : gb_S sh) {g : gb_G} (h : f_X6_setsWith sh g x1 = some out) : gb_C Γ M_X6_setsWith 0 0 0 sh g [.ref 63, .int x1] (gb_Ri sh out) := by
  refine gb_C.of rfl (Nat.le_of_ble_eq_true rfl) ?_
  refine gb_pick (lv' := [(0, .ref 63), (1, .int x1)]) [0, 1] rfl ?_
  unfold f_X6_setsWith at h
  refine gb_iconst 0 d_X6_setsWith_0 rfl ?_
  refine gb_istore_n [(2, .int 0), (0, .ref 63), (1, .int x1)] d_X6_setsWith_1 (Nat.le_of_ble_eq_true rfl) rfl ?_
  refine gb_iconst 0 d_X6_setsWith_2 rfl ?_
  refine gb_istore_n [(3, .int 0), (2, .int 0), (0, .ref 63), (1, .int x1)] d_X6_setsWith_3 (Nat.le_of_ble_eq_true rfl) rfl ?_
  refine gb_pick (lv' := [(0, .ref 63), (1, .int x1), (2, .int 0), (3, .int 0)]) [2, 3, 1, 0] rfl ?_
  exact t_X6_setsWith_4 hS  gb_N _ x1 0 0 h
