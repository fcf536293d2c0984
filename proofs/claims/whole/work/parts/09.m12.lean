-- X11_layRounds
noncomputable def f_X11_layRounds_131 (sh : List gb_Sh) (K11 : gb_G → Int32 → Int32 → Int32 → Option (gb_G)) (g : gb_G) (y1 : Int32) (y2 : Int32) (y3 : Int32) (y4 : Int32) : Option (gb_G) := gb_ck ((8 * y2) + y3) 2048 (gb_let (gb_pi g 99 (((8 * y2) + y3).toNatClampNeg) y4) (fun g2 => K11 g2 y1 y2 (y3 + 1)))
noncomputable def f_X11_layRounds_123 (sh : List gb_Sh) (K33 : gb_G → Int32 → Int32 → Int32 → Int32 → Int32 → Option (gb_G)) (g : gb_G) (y1 : Int32) (y2 : Int32) (y3 : Int32) (y5 : Int32) (z0 : Int32) : Option (gb_G) := K33 g y1 y2 y3 z0 (y5 + 1)
noncomputable def f_X11_layRounds_107 (sh : List gb_Sh) (K33 : gb_G → Int32 → Int32 → Int32 → Int32 → Int32 → Option (gb_G)) (g : gb_G) (y1 : Int32) (y2 : Int32) (y3 : Int32) (y4 : Int32) (y5 : Int32) (z0 : Int32) : Option (gb_G) := if y4 ≤ z0 then (f_X11_layRounds_123 sh K33 g y1 y2 y3 y5 y4) else (f_X11_layRounds_123 sh K33 g y1 y2 y3 y5 z0)
noncomputable def f_X11_layRounds_33 (sh : List gb_Sh) (K11 : gb_G → Int32 → Int32 → Int32 → Option (gb_G)) : Nat → gb_G → Int32 → Int32 → Int32 → Int32 → Int32 → Option (gb_G)
  | 0, _, _, _, _, _, _ => none
  | n + 1, g, y1, y2, y3, y4, y5 => if (g.1 79 0) ≤ y5 then (f_X11_layRounds_131 sh K11 g y1 y2 y3 y4) else (if (y2 &&& (y1 ^^^ (-1))) = 0 then (gb_bd (f_X11_is sh g y1 y3) (fun r3 => if r3.2 = 0 then (f_X11_layRounds_131 sh K11 r3.1 y1 y2 y3 y4) else (gb_bd (f_X11_is sh r3.1 y2 y5) (fun r5 => if r5.2 = 0 then (f_X11_layRounds_107 sh (fun w w0 w1 w2 w3 w4 => f_X11_layRounds_33 sh K11 n w w0 w1 w2 w3 w4) r5.1 y1 y2 y3 y4 y5 100000000) else (gb_bd (f_X11_placeOf sh r5.1 y3) (fun r7 => gb_bd (f_X11_placeOf sh r7.1 y5) (fun r9 => gb_bd (f_X11_stepsOf sh r9.1 r7.2 r9.2) (fun r11 => gb_ck ((8 * (y2 - ((1 : Int32) <<< (y5 &&& 31)))) + y5) 2048 (f_X11_layRounds_107 sh (fun w w0 w1 w2 w3 w4 => f_X11_layRounds_33 sh K11 n w w0 w1 w2 w3 w4) r11.1 y1 y2 y3 y4 y5 (r11.2 + (r11.1.1 99 (((8 * (y2 - ((1 : Int32) <<< (y5 &&& 31)))) + y5).toNatClampNeg)))))))))))) else (f_X11_layRounds_131 sh K11 g y1 y2 y3 y4))
noncomputable def f_X11_layRounds_28 (sh : List gb_Sh) (K11 : gb_G → Int32 → Int32 → Int32 → Option (gb_G)) (g : gb_G) (y1 : Int32) (y2 : Int32) (y3 : Int32) (z0 : Int32) : Option (gb_G) := f_X11_layRounds_33 sh K11 gb_N g y1 y2 y3 z0 0
noncomputable def f_X11_layRounds_11 (sh : List gb_Sh) (K2 : gb_G → Int32 → Int32 → Option (gb_G)) : Nat → gb_G → Int32 → Int32 → Int32 → Option (gb_G)
  | 0, _, _, _, _ => none
  | n + 1, g, y1, y2, y3 => if 8 ≤ y3 then (K2 g y1 (y2 + 1)) else (if y2 = 0 then (f_X11_layRounds_28 sh (fun w w0 w1 w2 => f_X11_layRounds_11 sh K2 n w w0 w1 w2) g y1 y2 y3 0) else (f_X11_layRounds_28 sh (fun w w0 w1 w2 => f_X11_layRounds_11 sh K2 n w w0 w1 w2) g y1 y2 y3 100000000))
noncomputable def f_X11_layRounds_2 (sh : List gb_Sh) : Nat → gb_G → Int32 → Int32 → Option (gb_G)
  | 0, _, _, _ => none
  | n + 1, g, y1, y2 => if 256 ≤ y2 then (some g) else (f_X11_layRounds_11 sh (fun w w0 w1 => f_X11_layRounds_2 sh n w w0 w1) gb_N g y1 y2 0)
noncomputable def f_X11_layRounds (sh : List gb_Sh) (g : gb_G) (x1 : Int32) : Option (gb_G) := f_X11_layRounds_2 sh gb_N g x1 0
set_option maxRecDepth 100000 in
set_option maxHeartbeats 4000000 in
theorem t_X11_layRounds_131 {Γ : gb_X} {sh : List gb_Sh} {out : gb_G} (hS : gb_S sh) {K11 : gb_G → Int32 → Int32 → Int32 → Option (gb_G)} (hK11 : ∀ (g : gb_G) (y1 : Int32) (y2 : Int32) (y3 : Int32), K11 g y1 y2 y3 = some out → gb_J Γ M_X11_layRounds 2 (gb_Rv sh out) 0 0 sh g 11 [(0, .ref 77), (1, .int y1), (2, .int y2), (3, .int y3)] []) : ∀ (g : gb_G) (y1 : Int32) (y2 : Int32) (y3 : Int32) (y4 : Int32), f_X11_layRounds_131 sh K11 g y1 y2 y3 y4 = some out → gb_J Γ M_X11_layRounds 2 (gb_Rv sh out) 0 0 sh g 131 [(0, .ref 77), (1, .int y1), (2, .int y2), (3, .int y3), (4, .int y4)] [] := by
  intro g y1 y2 y3 y4 h
  unfold f_X11_layRounds_131 at h
  refine gb_aload_n d_X11_layRounds_131 rfl ?_
  refine gb_getr (r := 99) f_X11_113 (hS 77 _ rfl) rfl d_X11_layRounds_132 ?_
  refine gb_bipush 8 d_X11_layRounds_135 rfl ?_
  refine gb_iload_n d_X11_layRounds_137 rfl ?_
  refine gb_imul d_X11_layRounds_138 ?_
  refine gb_iload_n d_X11_layRounds_139 rfl ?_
  refine gb_iadd d_X11_layRounds_140 ?_
  refine gb_iload d_X11_layRounds_141 rfl ?_
  obtain ⟨hi1, h⟩ := gb_ck_e h
  refine gb_iast_ (((8 * y2) + y3).toNatClampNeg) rfl (hS 99 _ rfl) hi1 d_X11_layRounds_143 ?_
  have h := gb_let_e h
  generalize gb_pi g 99 (((8 * y2) + y3).toNatClampNeg) y4 = g2 at h ⊢
  refine gb_iinc (y3 + 1) [(3, .int (y3 + 1)), (0, .ref 77), (1, .int y1), (2, .int y2), (4, .int y4)] d_X11_layRounds_144 (Nat.le_of_ble_eq_true rfl) rfl rfl rfl ?_
  refine gb_goto 11 d_X11_layRounds_147 (by decide) ?_
  refine gb_pick (lv' := [(0, .ref 77), (1, .int y1), (2, .int y2), (3, .int (y3 + 1))]) [1, 2, 3, 0] rfl ?_
  exact hK11 _ y1 y2 (y3 + 1) h
set_option maxRecDepth 100000 in
set_option maxHeartbeats 4000000 in
theorem t_X11_layRounds_123 {Γ : gb_X} {sh : List gb_Sh} {out : gb_G} (hS : gb_S sh) {K33 : gb_G → Int32 → Int32 → Int32 → Int32 → Int32 → Option (gb_G)} (hK33 : ∀ (g : gb_G) (y1 : Int32) (y2 : Int32) (y3 : Int32) (y4 : Int32) (y5 : Int32), K33 g y1 y2 y3 y4 y5 = some out → gb_J Γ M_X11_layRounds 2 (gb_Rv sh out) 0 0 sh g 33 [(0, .ref 77), (1, .int y1), (2, .int y2), (3, .int y3), (4, .int y4), (5, .int y5)] []) : ∀ (g : gb_G) (y1 : Int32) (y2 : Int32) (y3 : Int32) (y5 : Int32) (z0 : Int32), f_X11_layRounds_123 sh K33 g y1 y2 y3 y5 z0 = some out → gb_J Γ M_X11_layRounds 2 (gb_Rv sh out) 0 0 sh g 123 [(0, .ref 77), (1, .int y1), (2, .int y2), (3, .int y3), (5, .int y5)] [.int z0] := by
  intro g y1 y2 y3 y5 z0 h
  unfold f_X11_layRounds_123 at h
  refine gb_istore [(4, .int z0), (0, .ref 77), (1, .int y1), (2, .int y2), (3, .int y3), (5, .int y5)] d_X11_layRounds_123 (Nat.le_of_ble_eq_true rfl) rfl ?_
  refine gb_iinc (y5 + 1) [(5, .int (y5 + 1)), (4, .int z0), (0, .ref 77), (1, .int y1), (2, .int y2), (3, .int y3)] d_X11_layRounds_125 (Nat.le_of_ble_eq_true rfl) rfl rfl rfl ?_
  refine gb_goto 33 d_X11_layRounds_128 (by decide) ?_
  refine gb_pick (lv' := [(0, .ref 77), (1, .int y1), (2, .int y2), (3, .int y3), (4, .int z0), (5, .int (y5 + 1))]) [2, 3, 4, 5, 1, 0] rfl ?_
  exact hK33 _ y1 y2 y3 z0 (y5 + 1) h
set_option maxRecDepth 100000 in
set_option maxHeartbeats 4000000 in
theorem t_X11_layRounds_107 {Γ : gb_X} {sh : List gb_Sh} {out : gb_G} (hS : gb_S sh) {K33 : gb_G → Int32 → Int32 → Int32 → Int32 → Int32 → Option (gb_G)} (hK33 : ∀ (g : gb_G) (y1 : Int32) (y2 : Int32) (y3 : Int32) (y4 : Int32) (y5 : Int32), K33 g y1 y2 y3 y4 y5 = some out → gb_J Γ M_X11_layRounds 2 (gb_Rv sh out) 0 0 sh g 33 [(0, .ref 77), (1, .int y1), (2, .int y2), (3, .int y3), (4, .int y4), (5, .int y5)] []) : ∀ (g : gb_G) (y1 : Int32) (y2 : Int32) (y3 : Int32) (y4 : Int32) (y5 : Int32) (z0 : Int32), f_X11_layRounds_107 sh K33 g y1 y2 y3 y4 y5 z0 = some out → gb_J Γ M_X11_layRounds 2 (gb_Rv sh out) 0 0 sh g 107 [(0, .ref 77), (1, .int y1), (2, .int y2), (3, .int y3), (4, .int y4), (5, .int y5)] [.int z0] := by
  intro g y1 y2 y3 y4 y5 z0 h
  unfold f_X11_layRounds_107 at h
  refine gb_istore [(6, .int z0), (0, .ref 77), (1, .int y1), (2, .int y2), (3, .int y3), (4, .int y4), (5, .int y5)] d_X11_layRounds_107 (Nat.le_of_ble_eq_true rfl) rfl ?_
  refine gb_iload d_X11_layRounds_109 rfl ?_
  refine gb_iload d_X11_layRounds_111 rfl ?_
  refine gb_icmp_ge 121 d_X11_layRounds_113 (by decide) (fun hc => ?_) (fun hc => ?_)
  · have h := gb_it hc h
    refine gb_iload d_X11_layRounds_121 rfl ?_
    refine gb_pick (lv' := [(0, .ref 77), (1, .int y1), (2, .int y2), (3, .int y3), (5, .int y5)]) [1, 2, 3, 4, 6] rfl ?_
    exact t_X11_layRounds_123 hS hK33 _ y1 y2 y3 y5 y4 h
  · have h := gb_if hc h
    refine gb_iload d_X11_layRounds_116 rfl ?_
    refine gb_goto 123 d_X11_layRounds_118 (by decide) ?_
    refine gb_pick (lv' := [(0, .ref 77), (1, .int y1), (2, .int y2), (3, .int y3), (5, .int y5)]) [1, 2, 3, 4, 6] rfl ?_
    exact t_X11_layRounds_123 hS hK33 _ y1 y2 y3 y5 z0 h
set_option maxRecDepth 100000 in
set_option maxHeartbeats 4000000 in
theorem t_X11_layRounds_33 {Γ : gb_X} {sh : List gb_Sh} {out : gb_G} (hS : gb_S sh) {K11 : gb_G → Int32 → Int32 → Int32 → Option (gb_G)} (hK11 : ∀ (g : gb_G) (y1 : Int32) (y2 : Int32) (y3 : Int32), K11 g y1 y2 y3 = some out → gb_J Γ M_X11_layRounds 2 (gb_Rv sh out) 0 0 sh g 11 [(0, .ref 77), (1, .int y1), (2, .int y2), (3, .int y3)] []) : ∀ (n : Nat) (g : gb_G) (y1 : Int32) (y2 : Int32) (y3 : Int32) (y4 : Int32) (y5 : Int32), f_X11_layRounds_33 sh K11 n g y1 y2 y3 y4 y5 = some out → gb_J Γ M_X11_layRounds 2 (gb_Rv sh out) 0 0 sh g 33 [(0, .ref 77), (1, .int y1), (2, .int y2), (3, .int y3), (4, .int y4), (5, .int y5)] [] := by
  intro n
  induction n with
  | zero => intro g y1 y2 y3 y4 y5 h; cases h
  | succ n ih =>
    intro g y1 y2 y3 y4 y5 h
    rw [f_X11_layRounds_33] at h
    refine gb_iload d_X11_layRounds_33 rfl ?_
    refine gb_aload_n d_X11_layRounds_35 rfl ?_
    refine gb_getr (r := 79) f_X11_13 (hS 77 _ rfl) rfl d_X11_layRounds_36 ?_
    refine gb_iconst 0 d_X11_layRounds_39 rfl ?_
    refine gb_iald_ 0 rfl (hS 79 _ rfl) (by unfold vp_in; decide) d_X11_layRounds_40 ?_
    refine gb_icmp_ge 131 d_X11_layRounds_41 (by decide) (fun hc => ?_) (fun hc => ?_)
    · have h := gb_it hc h
      refine gb_pick (lv' := [(0, .ref 77), (1, .int y1), (2, .int y2), (3, .int y3), (4, .int y4)]) [0, 1, 2, 3, 4] rfl ?_
      exact t_X11_layRounds_131 hS hK11 _ y1 y2 y3 y4 h
    · have h := gb_if hc h
      refine gb_iload_n d_X11_layRounds_44 rfl ?_
      refine gb_iload_n d_X11_layRounds_45 rfl ?_
      refine gb_iconst (-1) d_X11_layRounds_46 rfl ?_
      refine gb_ixor d_X11_layRounds_47 ?_
      refine gb_iand d_X11_layRounds_48 ?_
      refine gb_if_ne 131 d_X11_layRounds_49 (by decide) (fun hc => ?_) (fun hc => ?_)
      · have h := gb_if hc h
        refine gb_pick (lv' := [(0, .ref 77), (1, .int y1), (2, .int y2), (3, .int y3), (4, .int y4)]) [0, 1, 2, 3, 4] rfl ?_
        exact t_X11_layRounds_131 hS hK11 _ y1 y2 y3 y4 h
      · have h := gb_it hc h
        refine gb_iload_n d_X11_layRounds_52 rfl ?_
        refine gb_iload_n d_X11_layRounds_53 rfl ?_
        obtain ⟨r3, e4, h⟩ := gb_bd_e h
        refine gb_cSi (As := [.int y1, .int y3]) (rest := []) m_X11_469 (t_X11_is (Γ := Γ) hS e4) (Nat.le_of_ble_eq_true rfl) rfl rfl (Nat.le_of_ble_eq_true rfl) d_X11_layRounds_54 ?_
        refine gb_if_eq 131 d_X11_layRounds_57 (by decide) (fun hc => ?_) (fun hc => ?_)
        · have h := gb_it hc h
          refine gb_pick (lv' := [(0, .ref 77), (1, .int y1), (2, .int y2), (3, .int y3), (4, .int y4)]) [0, 1, 2, 3, 4] rfl ?_
          exact t_X11_layRounds_131 hS hK11 _ y1 y2 y3 y4 h
        · have h := gb_if hc h
          refine gb_iload_n d_X11_layRounds_60 rfl ?_
          refine gb_iload d_X11_layRounds_61 rfl ?_
          obtain ⟨r5, e6, h⟩ := gb_bd_e h
          refine gb_cSi (As := [.int y2, .int y5]) (rest := []) m_X11_469 (t_X11_is (Γ := Γ) hS e6) (Nat.le_of_ble_eq_true rfl) rfl rfl (Nat.le_of_ble_eq_true rfl) d_X11_layRounds_63 ?_
          refine gb_if_eq 104 d_X11_layRounds_66 (by decide) (fun hc => ?_) (fun hc => ?_)
          · have h := gb_it hc h
            refine gb_ldcw 100000000 k_X11_461 d_X11_layRounds_104 ?_
            exact t_X11_layRounds_107 hS (fun w w0 w1 w2 w3 w4 hw => ih w w0 w1 w2 w3 w4 hw) _ y1 y2 y3 y4 y5 100000000 h
          · have h := gb_if hc h
            refine gb_aload_n d_X11_layRounds_69 rfl ?_
            refine gb_iload_n d_X11_layRounds_70 rfl ?_
            obtain ⟨r7, e8, h⟩ := gb_bd_e h
            refine gb_cVi (As := [.int y3]) (rest := []) m_X11_473 (t_X11_placeOf (Γ := Γ) hS e8) (hS 77 _ rfl) rfl (Nat.le_of_ble_eq_true rfl) rfl rfl (Nat.le_of_ble_eq_true rfl) d_X11_layRounds_71 ?_
            refine gb_aload_n d_X11_layRounds_74 rfl ?_
            refine gb_iload d_X11_layRounds_75 rfl ?_
            obtain ⟨r9, e10, h⟩ := gb_bd_e h
            refine gb_cVi (As := [.int y5]) (rest := [.int r7.2]) m_X11_473 (t_X11_placeOf (Γ := Γ) hS e10) (hS 77 _ rfl) rfl (Nat.le_of_ble_eq_true rfl) rfl rfl (Nat.le_of_ble_eq_true rfl) d_X11_layRounds_77 ?_
            obtain ⟨r11, e12, h⟩ := gb_bd_e h
            refine gb_cSi (As := [.int r7.2, .int r9.2]) (rest := []) m_X11_476 (t_X11_stepsOf (Γ := Γ) hS e12) (Nat.le_of_ble_eq_true rfl) rfl rfl (Nat.le_of_ble_eq_true rfl) d_X11_layRounds_80 ?_
            refine gb_aload_n d_X11_layRounds_83 rfl ?_
            refine gb_getr (r := 99) f_X11_113 (hS 77 _ rfl) rfl d_X11_layRounds_84 ?_
            refine gb_bipush 8 d_X11_layRounds_87 rfl ?_
            refine gb_iload_n d_X11_layRounds_89 rfl ?_
            refine gb_iconst 1 d_X11_layRounds_90 rfl ?_
            refine gb_iload d_X11_layRounds_91 rfl ?_
            refine gb_ishl d_X11_layRounds_93 ?_
            refine gb_isub d_X11_layRounds_94 ?_
            refine gb_imul d_X11_layRounds_95 ?_
            refine gb_iload d_X11_layRounds_96 rfl ?_
            refine gb_iadd d_X11_layRounds_98 ?_
            obtain ⟨hi13, h⟩ := gb_ck_e h
            refine gb_iald_ (((8 * (y2 - ((1 : Int32) <<< (y5 &&& 31)))) + y5).toNatClampNeg) rfl (hS 99 _ rfl) hi13 d_X11_layRounds_99 ?_
            refine gb_iadd d_X11_layRounds_100 ?_
            refine gb_goto 107 d_X11_layRounds_101 (by decide) ?_
            exact t_X11_layRounds_107 hS (fun w w0 w1 w2 w3 w4 hw => ih w w0 w1 w2 w3 w4 hw) _ y1 y2 y3 y4 y5 (r11.2 + (r11.1.1 99 (((8 * (y2 - ((1 : Int32) <<< (y5 &&& 31)))) + y5).toNatClampNeg))) h
set_option maxRecDepth 100000 in
set_option maxHeartbeats 4000000 in
theorem t_X11_layRounds_28 {Γ : gb_X} {sh : List gb_Sh} {out : gb_G} (hS : gb_S sh) {K11 : gb_G → Int32 → Int32 → Int32 → Option (gb_G)} (hK11 : ∀ (g : gb_G) (y1 : Int32) (y2 : Int32) (y3 : Int32), K11 g y1 y2 y3 = some out → gb_J Γ M_X11_layRounds 2 (gb_Rv sh out) 0 0 sh g 11 [(0, .ref 77), (1, .int y1), (2, .int y2), (3, .int y3)] []) : ∀ (g : gb_G) (y1 : Int32) (y2 : Int32) (y3 : Int32) (z0 : Int32), f_X11_layRounds_28 sh K11 g y1 y2 y3 z0 = some out → gb_J Γ M_X11_layRounds 2 (gb_Rv sh out) 0 0 sh g 28 [(0, .ref 77), (1, .int y1), (2, .int y2), (3, .int y3)] [.int z0] := by
  intro g y1 y2 y3 z0 h
  unfold f_X11_layRounds_28 at h
  refine gb_istore [(4, .int z0), (0, .ref 77), (1, .int y1), (2, .int y2), (3, .int y3)] d_X11_layRounds_28 (Nat.le_of_ble_eq_true rfl) rfl ?_
  refine gb_iconst 0 d_X11_layRounds_30 rfl ?_
  refine gb_istore [(5, .int 0), (4, .int z0), (0, .ref 77), (1, .int y1), (2, .int y2), (3, .int y3)] d_X11_layRounds_31 (Nat.le_of_ble_eq_true rfl) rfl ?_
  refine gb_pick (lv' := [(0, .ref 77), (1, .int y1), (2, .int y2), (3, .int y3), (4, .int z0), (5, .int 0)]) [2, 3, 4, 5, 1, 0] rfl ?_
  exact t_X11_layRounds_33 hS hK11 gb_N _ y1 y2 y3 z0 0 h
set_option maxRecDepth 100000 in
set_option maxHeartbeats 4000000 in
theorem t_X11_layRounds_11 {Γ : gb_X} {sh : List gb_Sh} {out : gb_G} (hS : gb_S sh) {K2 : gb_G → Int32 → Int32 → Option (gb_G)} (hK2 : ∀ (g : gb_G) (y1 : Int32) (y2 : Int32), K2 g y1 y2 = some out → gb_J Γ M_X11_layRounds 2 (gb_Rv sh out) 0 0 sh g 2 [(0, .ref 77), (1, .int y1), (2, .int y2)] []) : ∀ (n : Nat) (g : gb_G) (y1 : Int32) (y2 : Int32) (y3 : Int32), f_X11_layRounds_11 sh K2 n g y1 y2 y3 = some out → gb_J Γ M_X11_layRounds 2 (gb_Rv sh out) 0 0 sh g 11 [(0, .ref 77), (1, .int y1), (2, .int y2), (3, .int y3)] [] := by
  intro n
  induction n with
  | zero => intro g y1 y2 y3 h; cases h
  | succ n ih =>
    intro g y1 y2 y3 h
    rw [f_X11_layRounds_11] at h
    refine gb_iload_n d_X11_layRounds_11 rfl ?_
    refine gb_bipush 8 d_X11_layRounds_12 rfl ?_
    refine gb_icmp_ge 150 d_X11_layRounds_14 (by decide) (fun hc => ?_) (fun hc => ?_)
    · have h := gb_it hc h
      refine gb_iinc (y2 + 1) [(2, .int (y2 + 1)), (0, .ref 77), (1, .int y1), (3, .int y3)] d_X11_layRounds_150 (Nat.le_of_ble_eq_true rfl) rfl rfl rfl ?_
      refine gb_goto 2 d_X11_layRounds_153 (by decide) ?_
      refine gb_pick (lv' := [(0, .ref 77), (1, .int y1), (2, .int (y2 + 1))]) [1, 2, 0] rfl ?_
      exact hK2 _ y1 (y2 + 1) h
    · have h := gb_if hc h
      refine gb_iload_n d_X11_layRounds_17 rfl ?_
      refine gb_if_ne 25 d_X11_layRounds_18 (by decide) (fun hc => ?_) (fun hc => ?_)
      · have h := gb_if hc h
        refine gb_ldcw 100000000 k_X11_461 d_X11_layRounds_25 ?_
        exact t_X11_layRounds_28 hS (fun w w0 w1 w2 hw => ih w w0 w1 w2 hw) _ y1 y2 y3 100000000 h
      · have h := gb_it hc h
        refine gb_iconst 0 d_X11_layRounds_21 rfl ?_
        refine gb_goto 28 d_X11_layRounds_22 (by decide) ?_
        exact t_X11_layRounds_28 hS (fun w w0 w1 w2 hw => ih w w0 w1 w2 hw) _ y1 y2 y3 0 h
set_option maxRecDepth 100000 in
set_option maxHeartbeats 4000000 in
theorem t_X11_layRounds_2 {Γ : gb_X} {sh : List gb_Sh} {out : gb_G} (hS : gb_S sh) : ∀ (n : Nat) (g : gb_G) (y1 : Int32) (y2 : Int32), f_X11_layRounds_2 sh n g y1 y2 = some out → gb_J Γ M_X11_layRounds 2 (gb_Rv sh out) 0 0 sh g 2 [(0, .ref 77), (1, .int y1), (2, .int y2)] [] := by
  intro n
  induction n with
  | zero => intro g y1 y2 h; cases h
  | succ n ih =>
    intro g y1 y2 h
    rw [f_X11_layRounds_2] at h
    refine gb_iload_n d_X11_layRounds_2 rfl ?_
    refine gb_sipush 256 d_X11_layRounds_3 rfl ?_
    refine gb_icmp_ge 156 d_X11_layRounds_6 (by decide) (fun hc => ?_) (fun hc => ?_)
    · have h := gb_it hc h
      cases h
      exact gb_vret d_X11_layRounds_156 rfl ⟨rfl, rfl, rfl⟩
    · have h := gb_if hc h
      refine gb_iconst 0 d_X11_layRounds_9 rfl ?_
      refine gb_istore_n [(3, .int 0), (0, .ref 77), (1, .int y1), (2, .int y2)] d_X11_layRounds_10 (Nat.le_of_ble_eq_true rfl) rfl ?_
      refine gb_pick (lv' := [(0, .ref 77), (1, .int y1), (2, .int y2), (3, .int 0)]) [1, 2, 3, 0] rfl ?_
      exact t_X11_layRounds_11 hS (fun w w0 w1 hw => ih w w0 w1 hw) gb_N _ y1 y2 0 h
set_option maxRecDepth 100000 in
set_option maxHeartbeats 4000000 in
theorem t_X11_layRounds {Γ : gb_X} {sh : List gb_Sh} {x1 : Int32} {out : gb_G} (hS : gb_S sh) {g : gb_G} (h : f_X11_layRounds sh g x1 = some out) : gb_C Γ M_X11_layRounds 2 0 0 sh g [.ref 77, .int x1] (gb_Rv sh out) := by
  refine gb_C.of rfl (Nat.le_of_ble_eq_true rfl) ?_
  refine gb_pick (lv' := [(0, .ref 77), (1, .int x1)]) [0, 1] rfl ?_
  unfold f_X11_layRounds at h
  refine gb_iconst 0 d_X11_layRounds_0 rfl ?_
  refine gb_istore_n [(2, .int 0), (0, .ref 77), (1, .int x1)] d_X11_layRounds_1 (Nat.le_of_ble_eq_true rfl) rfl ?_
  refine gb_pick (lv' := [(0, .ref 77), (1, .int x1), (2, .int 0)]) [1, 2, 0] rfl ?_
  exact t_X11_layRounds_2 hS  gb_N _ x1 0 h
-- X11_fromPlace
noncomputable def f_X11_fromPlace (sh : List gb_Sh) (g : gb_G) (x1 : Int32) (x2 : Int32) (x3 : Int32) : Option (gb_G × Int32) := gb_bd (f_X11_is sh g x2 x3) (fun r1 => if r1.2 = 0 then (some (r1.1, 100000000)) else (gb_bd (f_X11_placeOf sh r1.1 x3) (fun r3 => gb_bd (f_X11_stepsOf sh r3.1 x1 r3.2) (fun r5 => gb_ck ((8 * (x2 - ((1 : Int32) <<< (x3 &&& 31)))) + x3) 2048 (some (r5.1, (r5.2 + (r5.1.1 99 (((8 * (x2 - ((1 : Int32) <<< (x3 &&& 31)))) + x3).toNatClampNeg)))))))))
set_option maxRecDepth 100000 in
set_option maxHeartbeats 4000000 in
theorem t_X11_fromPlace {Γ : gb_X} {sh : List gb_Sh} {x1 : Int32} {x2 : Int32} {x3 : Int32} {out : gb_G × Int32} (hS : gb_S sh) {g : gb_G} (h : f_X11_fromPlace sh g x1 x2 x3 = some out) : gb_C Γ M_X11_fromPlace 2 0 0 sh g [.ref 77, .int x1, .int x2, .int x3] (gb_Ri sh out) := by
  refine gb_C.of rfl (Nat.le_of_ble_eq_true rfl) ?_
  refine gb_pick (lv' := [(0, .ref 77), (1, .int x1), (2, .int x2), (3, .int x3)]) [0, 1, 2, 3] rfl ?_
  unfold f_X11_fromPlace at h
  refine gb_iload_n d_X11_fromPlace_0 rfl ?_
  refine gb_iload_n d_X11_fromPlace_1 rfl ?_
  obtain ⟨r1, e2, h⟩ := gb_bd_e h
  refine gb_cSi (As := [.int x2, .int x3]) (rest := []) m_X11_469 (t_X11_is (Γ := Γ) hS e2) (Nat.le_of_ble_eq_true rfl) rfl rfl (Nat.le_of_ble_eq_true rfl) d_X11_fromPlace_2 ?_
  refine gb_if_eq 36 d_X11_fromPlace_5 (by decide) (fun hc => ?_) (fun hc => ?_)
  · have h := gb_it hc h
    refine gb_ldcw 100000000 k_X11_461 d_X11_fromPlace_36 ?_
    cases h
    exact gb_iret d_X11_fromPlace_39 rfl ⟨rfl, rfl, rfl⟩
  · have h := gb_if hc h
    refine gb_iload_n d_X11_fromPlace_8 rfl ?_
    refine gb_aload_n d_X11_fromPlace_9 rfl ?_
    refine gb_iload_n d_X11_fromPlace_10 rfl ?_
    obtain ⟨r3, e4, h⟩ := gb_bd_e h
    refine gb_cVi (As := [.int x3]) (rest := [.int x1]) m_X11_473 (t_X11_placeOf (Γ := Γ) hS e4) (hS 77 _ rfl) rfl (Nat.le_of_ble_eq_true rfl) rfl rfl (Nat.le_of_ble_eq_true rfl) d_X11_fromPlace_11 ?_
    obtain ⟨r5, e6, h⟩ := gb_bd_e h
    refine gb_cSi (As := [.int x1, .int r3.2]) (rest := []) m_X11_476 (t_X11_stepsOf (Γ := Γ) hS e6) (Nat.le_of_ble_eq_true rfl) rfl rfl (Nat.le_of_ble_eq_true rfl) d_X11_fromPlace_14 ?_
    refine gb_aload_n d_X11_fromPlace_17 rfl ?_
    refine gb_getr (r := 99) f_X11_113 (hS 77 _ rfl) rfl d_X11_fromPlace_18 ?_
    refine gb_bipush 8 d_X11_fromPlace_21 rfl ?_
    refine gb_iload_n d_X11_fromPlace_23 rfl ?_
    refine gb_iconst 1 d_X11_fromPlace_24 rfl ?_
    refine gb_iload_n d_X11_fromPlace_25 rfl ?_
    refine gb_ishl d_X11_fromPlace_26 ?_
    refine gb_isub d_X11_fromPlace_27 ?_
    refine gb_imul d_X11_fromPlace_28 ?_
    refine gb_iload_n d_X11_fromPlace_29 rfl ?_
    refine gb_iadd d_X11_fromPlace_30 ?_
    obtain ⟨hi7, h⟩ := gb_ck_e h
    refine gb_iald_ (((8 * (x2 - ((1 : Int32) <<< (x3 &&& 31)))) + x3).toNatClampNeg) rfl (hS 99 _ rfl) hi7 d_X11_fromPlace_31 ?_
    refine gb_iadd d_X11_fromPlace_32 ?_
    refine gb_goto 39 d_X11_fromPlace_33 (by decide) ?_
    cases h
    exact gb_iret d_X11_fromPlace_39 rfl ⟨rfl, rfl, rfl⟩
-- X11_round
noncomputable def f_X11_round_184 (sh : List gb_Sh) (g : gb_G) (y2 : Int32) (y5 : Int32) (y6 : Int32) (y7 : Int32) : Option (gb_G × Int32) := if y2 = (-1) then (some (g, y6)) else (if y7 = (y2 + 1) then (some (g, y5)) else (some (g, (-1))))
noncomputable def f_X11_round_139 (sh : List gb_Sh) (K104 : gb_G → Int32 → Int32 → Int32 → Int32 → Int32 → Int32 → Int32 → Option (gb_G × Int32)) (g : gb_G) (y2 : Int32) (y3 : Int32) (y4 : Int32) (y6 : Int32) (y7 : Int32) (y8 : Int32) (z0 : Int32) : Option (gb_G × Int32) := K104 g y2 y3 y4 z0 y6 y7 (y8 + 1)
noncomputable def f_X11_round_104 (sh : List gb_Sh) (K83 : gb_G → Int32 → Int32 → Int32 → Int32 → Int32 → Int32 → Option (gb_G × Int32)) : Nat → gb_G → Int32 → Int32 → Int32 → Int32 → Int32 → Int32 → Int32 → Option (gb_G × Int32)
  | 0, _, _, _, _, _, _, _, _ => none
  | n + 1, g, y2, y3, y4, y5, y6, y7, y8 => if 8 ≤ y8 then (gb_bd (f_X11_placeOf sh g y5) (fun r6 => gb_bd (f_X11_stepsOf sh r6.1 y4 r6.2) (fun r8 => gb_bd (f_X11_placeOf sh r8.1 y5) (fun r10 => K83 r10.1 y2 (y3 - ((1 : Int32) <<< (y5 &&& 31))) r10.2 y5 (y6 + r8.2) (y7 + 1))))) else (gb_bd (f_X11_fromPlace sh g y4 y3 y8) (fun r12 => gb_bd (f_X11_fromPlace sh r12.1 y4 y3 y5) (fun r14 => if r14.2 ≤ r12.2 then (f_X11_round_139 sh (fun w w0 w1 w2 w3 w4 w5 w6 => f_X11_round_104 sh K83 n w w0 w1 w2 w3 w4 w5 w6) r14.1 y2 y3 y4 y6 y7 y8 y5) else (f_X11_round_139 sh (fun w w0 w1 w2 w3 w4 w5 w6 => f_X11_round_104 sh K83 n w w0 w1 w2 w3 w4 w5 w6) r14.1 y2 y3 y4 y6 y7 y8 y8))))
noncomputable def f_X11_round_98 (sh : List gb_Sh) (K83 : gb_G → Int32 → Int32 → Int32 → Int32 → Int32 → Int32 → Option (gb_G × Int32)) (g : gb_G) (y2 : Int32) (y3 : Int32) (y4 : Int32) (y6 : Int32) (y7 : Int32) : Option (gb_G × Int32) := f_X11_round_104 sh K83 gb_N g y2 y3 y4 0 y6 y7 1
noncomputable def f_X11_round_83 (sh : List gb_Sh) : Nat → gb_G → Int32 → Int32 → Int32 → Int32 → Int32 → Int32 → Option (gb_G × Int32)
  | 0, _, _, _, _, _, _, _ => none
  | n + 1, g, y2, y3, y4, y5, y6, y7 => if y3 = 0 then (f_X11_round_184 sh g y2 y5 y6 y7) else (if y2 = (-1) then (f_X11_round_98 sh (fun w w0 w1 w2 w3 w4 w5 => f_X11_round_83 sh n w w0 w1 w2 w3 w4 w5) g y2 y3 y4 y6 y7) else (if y2 < y7 then (f_X11_round_184 sh g y2 y5 y6 y7) else (f_X11_round_98 sh (fun w w0 w1 w2 w3 w4 w5 => f_X11_round_83 sh n w w0 w1 w2 w3 w4 w5) g y2 y3 y4 y6 y7)))
noncomputable def f_X11_round_58 (sh : List gb_Sh) (K29 : gb_G → Int32 → Int32 → Int32 → Int32 → Option (gb_G × Int32)) (g : gb_G) (y1 : Int32) (y2 : Int32) (y4 : Int32) (z0 : Int32) (z1 : Int32) : Option (gb_G × Int32) := K29 g y1 y2 (z1 ||| z0) (y4 + 1)
noncomputable def f_X11_round_29 (sh : List gb_Sh) : Nat → gb_G → Int32 → Int32 → Int32 → Int32 → Option (gb_G × Int32)
  | 0, _, _, _, _, _ => none
  | n + 1, g, y1, y2, y3, y4 => if (g.1 79 0) ≤ y4 then (gb_bd (f_X11_layRounds sh g y3) (fun r4 => f_X11_round_83 sh gb_N r4 y2 y3 y1 (-1) 0 0)) else (gb_bd (f_X11_countsOf sh g y4) (fun r16 => if r16.2 ≤ 0 then (f_X11_round_58 sh (fun w w0 w1 w2 w3 => f_X11_round_29 sh n w w0 w1 w2 w3) r16.1 y1 y2 y4 0 y3) else (f_X11_round_58 sh (fun w w0 w1 w2 w3 => f_X11_round_29 sh n w w0 w1 w2 w3) r16.1 y1 y2 y4 ((1 : Int32) <<< (y4 &&& 31)) y3)))
noncomputable def f_X11_round (sh : List gb_Sh) (g : gb_G) (x1 : Int32) (x2 : Int32) : Option (gb_G × Int32) := gb_let (gb_pi g 77 0 0) (fun g1 => gb_bd (f_X11_in sh g1 x1.toInt64 0 24) (fun r2 => if r2.2 = 0 then (some (r2.1, (-1))) else (if (-1) ≤ x2 then (f_X11_round_29 sh gb_N r2.1 x1 x2 0 0) else (some (r2.1, (-1))))))
set_option maxRecDepth 100000 in
set_option maxHeartbeats 4000000 in
theorem t_X11_round_184 {Γ : gb_X} {sh : List gb_Sh} {out : gb_G × Int32} (hS : gb_S sh) : ∀ (g : gb_G) (y2 : Int32) (y5 : Int32) (y6 : Int32) (y7 : Int32), f_X11_round_184 sh g y2 y5 y6 y7 = some out → gb_J Γ M_X11_round 6 (gb_Ri sh out) 0 0 sh g 184 [(2, .int y2), (5, .int y5), (6, .int y6), (7, .int y7)] [] := by
  intro g y2 y5 y6 y7 h
  unfold f_X11_round_184 at h
  refine gb_iload_n d_X11_round_184 rfl ?_
  refine gb_iconst (-1) d_X11_round_185 rfl ?_
  refine gb_icmp_ne 194 d_X11_round_186 (by decide) (fun hc => ?_) (fun hc => ?_)
  · have h := gb_if hc h
    refine gb_iload d_X11_round_194 rfl ?_
    refine gb_iload_n d_X11_round_196 rfl ?_
    refine gb_iconst 1 d_X11_round_197 rfl ?_
    refine gb_iadd d_X11_round_198 ?_
    refine gb_icmp_ne 207 d_X11_round_199 (by decide) (fun hc => ?_) (fun hc => ?_)
    · have h := gb_if hc h
      refine gb_iconst (-1) d_X11_round_207 rfl ?_
      cases h
      exact gb_iret d_X11_round_208 rfl ⟨rfl, rfl, rfl⟩
    · have h := gb_it hc h
      refine gb_iload d_X11_round_202 rfl ?_
      refine gb_goto 208 d_X11_round_204 (by decide) ?_
      cases h
      exact gb_iret d_X11_round_208 rfl ⟨rfl, rfl, rfl⟩
  · have h := gb_it hc h
    refine gb_iload d_X11_round_189 rfl ?_
    refine gb_goto 208 d_X11_round_191 (by decide) ?_
    cases h
    exact gb_iret d_X11_round_208 rfl ⟨rfl, rfl, rfl⟩
set_option maxRecDepth 100000 in
set_option maxHeartbeats 4000000 in
theorem t_X11_round_139 {Γ : gb_X} {sh : List gb_Sh} {out : gb_G × Int32} (hS : gb_S sh) {K104 : gb_G → Int32 → Int32 → Int32 → Int32 → Int32 → Int32 → Int32 → Option (gb_G × Int32)} (hK104 : ∀ (g : gb_G) (y2 : Int32) (y3 : Int32) (y4 : Int32) (y5 : Int32) (y6 : Int32) (y7 : Int32) (y8 : Int32), K104 g y2 y3 y4 y5 y6 y7 y8 = some out → gb_J Γ M_X11_round 6 (gb_Ri sh out) 0 0 sh g 104 [(0, .ref 77), (2, .int y2), (3, .int y3), (4, .int y4), (5, .int y5), (6, .int y6), (7, .int y7), (8, .int y8)] []) : ∀ (g : gb_G) (y2 : Int32) (y3 : Int32) (y4 : Int32) (y6 : Int32) (y7 : Int32) (y8 : Int32) (z0 : Int32), f_X11_round_139 sh K104 g y2 y3 y4 y6 y7 y8 z0 = some out → gb_J Γ M_X11_round 6 (gb_Ri sh out) 0 0 sh g 139 [(0, .ref 77), (2, .int y2), (3, .int y3), (4, .int y4), (6, .int y6), (7, .int y7), (8, .int y8)] [.int z0] := by
  intro g y2 y3 y4 y6 y7 y8 z0 h
  unfold f_X11_round_139 at h
  refine gb_istore [(5, .int z0), (0, .ref 77), (2, .int y2), (3, .int y3), (4, .int y4), (6, .int y6), (7, .int y7), (8, .int y8)] d_X11_round_139 (Nat.le_of_ble_eq_true rfl) rfl ?_
  refine gb_iinc (y8 + 1) [(8, .int (y8 + 1)), (5, .int z0), (0, .ref 77), (2, .int y2), (3, .int y3), (4, .int y4), (6, .int y6), (7, .int y7)] d_X11_round_141 (Nat.le_of_ble_eq_true rfl) rfl rfl rfl ?_
  refine gb_goto 104 d_X11_round_144 (by decide) ?_
  refine gb_pick (lv' := [(0, .ref 77), (2, .int y2), (3, .int y3), (4, .int y4), (5, .int z0), (6, .int y6), (7, .int y7), (8, .int (y8 + 1))]) [2, 3, 4, 5, 1, 6, 7, 0] rfl ?_
  exact hK104 _ y2 y3 y4 z0 y6 y7 (y8 + 1) h
set_option maxRecDepth 100000 in
set_option maxHeartbeats 4000000 in
theorem t_X11_round_104 {Γ : gb_X} {sh : List gb_Sh} {out : gb_G × Int32} (hS : gb_S sh) {K83 : gb_G → Int32 → Int32 → Int32 → Int32 → Int32 → Int32 → Option (gb_G × Int32)} (hK83 : ∀ (g : gb_G) (y2 : Int32) (y3 : Int32) (y4 : Int32) (y5 : Int32) (y6 : Int32) (y7 : Int32), K83 g y2 y3 y4 y5 y6 y7 = some out → gb_J Γ M_X11_round 6 (gb_Ri sh out) 0 0 sh g 83 [(0, .ref 77), (2, .int y2), (3, .int y3), (4, .int y4), (5, .int y5), (6, .int y6), (7, .int y7)] []) : ∀ (n : Nat) (g : gb_G) (y2 : Int32) (y3 : Int32) (y4 : Int32) (y5 : Int32) (y6 : Int32) (y7 : Int32) (y8 : Int32), f_X11_round_104 sh K83 n g y2 y3 y4 y5 y6 y7 y8 = some out → gb_J Γ M_X11_round 6 (gb_Ri sh out) 0 0 sh g 104 [(0, .ref 77), (2, .int y2), (3, .int y3), (4, .int y4), (5, .int y5), (6, .int y6), (7, .int y7), (8, .int y8)] [] := by
  intro n
  induction n with
  | zero => intro g y2 y3 y4 y5 y6 y7 y8 h; cases h
  | succ n ih =>
    intro g y2 y3 y4 y5 y6 y7 y8 h
    rw [f_X11_round_104] at h
    refine gb_iload d_X11_round_104 rfl ?_
    refine gb_bipush 8 d_X11_round_106 rfl ?_
    refine gb_icmp_ge 147 d_X11_round_108 (by decide) (fun hc => ?_) (fun hc => ?_)
    · have h := gb_it hc h
      refine gb_iload d_X11_round_147 rfl ?_
      refine gb_iload d_X11_round_149 rfl ?_
      refine gb_aload_n d_X11_round_151 rfl ?_
      refine gb_iload d_X11_round_152 rfl ?_
      obtain ⟨r6, e7, h⟩ := gb_bd_e h
      refine gb_cVi (As := [.int y5]) (rest := [.int y4, .int y6]) m_X11_473 (t_X11_placeOf (Γ := Γ) hS e7) (hS 77 _ rfl) rfl (Nat.le_of_ble_eq_true rfl) rfl rfl (Nat.le_of_ble_eq_true rfl) d_X11_round_154 ?_
      obtain ⟨r8, e9, h⟩ := gb_bd_e h
      refine gb_cSi (As := [.int y4, .int r6.2]) (rest := [.int y6]) m_X11_476 (t_X11_stepsOf (Γ := Γ) hS e9) (Nat.le_of_ble_eq_true rfl) rfl rfl (Nat.le_of_ble_eq_true rfl) d_X11_round_157 ?_
      refine gb_iadd d_X11_round_160 ?_
      refine gb_istore [(6, .int (y6 + r8.2)), (0, .ref 77), (2, .int y2), (3, .int y3), (4, .int y4), (5, .int y5), (7, .int y7), (8, .int y8)] d_X11_round_161 (Nat.le_of_ble_eq_true rfl) rfl ?_
      refine gb_aload_n d_X11_round_163 rfl ?_
      refine gb_iload d_X11_round_164 rfl ?_
      obtain ⟨r10, e11, h⟩ := gb_bd_e h
      refine gb_cVi (As := [.int y5]) (rest := []) m_X11_473 (t_X11_placeOf (Γ := Γ) hS e11) (hS 77 _ rfl) rfl (Nat.le_of_ble_eq_true rfl) rfl rfl (Nat.le_of_ble_eq_true rfl) d_X11_round_166 ?_
      refine gb_istore [(4, .int r10.2), (6, .int (y6 + r8.2)), (0, .ref 77), (2, .int y2), (3, .int y3), (5, .int y5), (7, .int y7), (8, .int y8)] d_X11_round_169 (Nat.le_of_ble_eq_true rfl) rfl ?_
      refine gb_iload_n d_X11_round_171 rfl ?_
      refine gb_iconst 1 d_X11_round_172 rfl ?_
      refine gb_iload d_X11_round_173 rfl ?_
      refine gb_ishl d_X11_round_175 ?_
      refine gb_isub d_X11_round_176 ?_
      refine gb_istore_n [(3, .int (y3 - ((1 : Int32) <<< (y5 &&& 31)))), (4, .int r10.2), (6, .int (y6 + r8.2)), (0, .ref 77), (2, .int y2), (5, .int y5), (7, .int y7), (8, .int y8)] d_X11_round_177 (Nat.le_of_ble_eq_true rfl) rfl ?_
      refine gb_iinc (y7 + 1) [(7, .int (y7 + 1)), (3, .int (y3 - ((1 : Int32) <<< (y5 &&& 31)))), (4, .int r10.2), (6, .int (y6 + r8.2)), (0, .ref 77), (2, .int y2), (5, .int y5), (8, .int y8)] d_X11_round_178 (Nat.le_of_ble_eq_true rfl) rfl rfl rfl ?_
      refine gb_goto 83 d_X11_round_181 (by decide) ?_
      refine gb_pick (lv' := [(0, .ref 77), (2, .int y2), (3, .int (y3 - ((1 : Int32) <<< (y5 &&& 31)))), (4, .int r10.2), (5, .int y5), (6, .int (y6 + r8.2)), (7, .int (y7 + 1))]) [4, 5, 1, 2, 6, 3, 0] rfl ?_
      exact hK83 _ y2 (y3 - ((1 : Int32) <<< (y5 &&& 31))) r10.2 y5 (y6 + r8.2) (y7 + 1) h
    · have h := gb_if hc h
      refine gb_aload_n d_X11_round_111 rfl ?_
      refine gb_iload d_X11_round_112 rfl ?_
      refine gb_iload_n d_X11_round_114 rfl ?_
      refine gb_iload d_X11_round_115 rfl ?_
      obtain ⟨r12, e13, h⟩ := gb_bd_e h
      refine gb_cVi (As := [.int y4, .int y3, .int y8]) (rest := []) m_X11_482 (t_X11_fromPlace (Γ := Γ) hS e13) (hS 77 _ rfl) rfl (Nat.le_of_ble_eq_true rfl) rfl rfl (Nat.le_of_ble_eq_true rfl) d_X11_round_117 ?_
      refine gb_aload_n d_X11_round_120 rfl ?_
      refine gb_iload d_X11_round_121 rfl ?_
      refine gb_iload_n d_X11_round_123 rfl ?_
      refine gb_iload d_X11_round_124 rfl ?_
      obtain ⟨r14, e15, h⟩ := gb_bd_e h
      refine gb_cVi (As := [.int y4, .int y3, .int y5]) (rest := [.int r12.2]) m_X11_482 (t_X11_fromPlace (Γ := Γ) hS e15) (hS 77 _ rfl) rfl (Nat.le_of_ble_eq_true rfl) rfl rfl (Nat.le_of_ble_eq_true rfl) d_X11_round_126 ?_
      refine gb_icmp_ge 137 d_X11_round_129 (by decide) (fun hc => ?_) (fun hc => ?_)
      · have h := gb_it hc h
        refine gb_iload d_X11_round_137 rfl ?_
        refine gb_pick (lv' := [(0, .ref 77), (2, .int y2), (3, .int y3), (4, .int y4), (6, .int y6), (7, .int y7), (8, .int y8)]) [0, 1, 2, 3, 5, 6, 7] rfl ?_
        exact t_X11_round_139 hS (fun w w0 w1 w2 w3 w4 w5 w6 hw => ih w w0 w1 w2 w3 w4 w5 w6 hw) _ y2 y3 y4 y6 y7 y8 y5 h
      · have h := gb_if hc h
        refine gb_iload d_X11_round_132 rfl ?_
        refine gb_goto 139 d_X11_round_134 (by decide) ?_
        refine gb_pick (lv' := [(0, .ref 77), (2, .int y2), (3, .int y3), (4, .int y4), (6, .int y6), (7, .int y7), (8, .int y8)]) [0, 1, 2, 3, 5, 6, 7] rfl ?_
        exact t_X11_round_139 hS (fun w w0 w1 w2 w3 w4 w5 w6 hw => ih w w0 w1 w2 w3 w4 w5 w6 hw) _ y2 y3 y4 y6 y7 y8 y8 h
set_option maxRecDepth 100000 in
set_option maxHeartbeats 4000000 in
theorem t_X11_round_98 {Γ : gb_X} {sh : List gb_Sh} {out : gb_G × Int32} (hS : gb_S sh) {K83 : gb_G → Int32 → Int32 → Int32 → Int32 → Int32 → Int32 → Option (gb_G × Int32)} (hK83 : ∀ (g : gb_G) (y2 : Int32) (y3 : Int32) (y4 : Int32) (y5 : Int32) (y6 : Int32) (y7 : Int32), K83 g y2 y3 y4 y5 y6 y7 = some out → gb_J Γ M_X11_round 6 (gb_Ri sh out) 0 0 sh g 83 [(0, .ref 77), (2, .int y2), (3, .int y3), (4, .int y4), (5, .int y5), (6, .int y6), (7, .int y7)] []) : ∀ (g : gb_G) (y2 : Int32) (y3 : Int32) (y4 : Int32) (y6 : Int32) (y7 : Int32), f_X11_round_98 sh K83 g y2 y3 y4 y6 y7 = some out → gb_J Γ M_X11_round 6 (gb_Ri sh out) 0 0 sh g 98 [(0, .ref 77), (2, .int y2), (3, .int y3), (4, .int y4), (6, .int y6), (7, .int y7)] [] := by
  intro g y2 y3 y4 y6 y7 h
  unfold f_X11_round_98 at h
  refine gb_iconst 0 d_X11_round_98 rfl ?_
  refine gb_istore [(5, .int 0), (0, .ref 77), (2, .int y2), (3, .int y3), (4, .int y4), (6, .int y6), (7, .int y7)] d_X11_round_99 (Nat.le_of_ble_eq_true rfl) rfl ?_
  refine gb_iconst 1 d_X11_round_101 rfl ?_
  refine gb_istore [(8, .int 1), (5, .int 0), (0, .ref 77), (2, .int y2), (3, .int y3), (4, .int y4), (6, .int y6), (7, .int y7)] d_X11_round_102 (Nat.le_of_ble_eq_true rfl) rfl ?_
  refine gb_pick (lv' := [(0, .ref 77), (2, .int y2), (3, .int y3), (4, .int y4), (5, .int 0), (6, .int y6), (7, .int y7), (8, .int 1)]) [2, 3, 4, 5, 1, 6, 7, 0] rfl ?_
  exact t_X11_round_104 hS hK83 gb_N _ y2 y3 y4 0 y6 y7 1 h
set_option maxRecDepth 100000 in
set_option maxHeartbeats 4000000 in
theorem t_X11_round_83 {Γ : gb_X} {sh : List gb_Sh} {out : gb_G × Int32} (hS : gb_S sh) : ∀ (n : Nat) (g : gb_G) (y2 : Int32) (y3 : Int32) (y4 : Int32) (y5 : Int32) (y6 : Int32) (y7 : Int32), f_X11_round_83 sh n g y2 y3 y4 y5 y6 y7 = some out → gb_J Γ M_X11_round 6 (gb_Ri sh out) 0 0 sh g 83 [(0, .ref 77), (2, .int y2), (3, .int y3), (4, .int y4), (5, .int y5), (6, .int y6), (7, .int y7)] [] := by
  intro n
  induction n with
  | zero => intro g y2 y3 y4 y5 y6 y7 h; cases h
  | succ n ih =>
    intro g y2 y3 y4 y5 y6 y7 h
    rw [f_X11_round_83] at h
    refine gb_iload_n d_X11_round_83 rfl ?_
    refine gb_if_eq 184 d_X11_round_84 (by decide) (fun hc => ?_) (fun hc => ?_)
    · have h := gb_it hc h
      refine gb_pick (lv' := [(2, .int y2), (5, .int y5), (6, .int y6), (7, .int y7)]) [1, 4, 5, 6] rfl ?_
      exact t_X11_round_184 hS  _ y2 y5 y6 y7 h
    · have h := gb_if hc h
      refine gb_iload_n d_X11_round_87 rfl ?_
      refine gb_iconst (-1) d_X11_round_88 rfl ?_
      refine gb_icmp_eq 98 d_X11_round_89 (by decide) (fun hc => ?_) (fun hc => ?_)
      · have h := gb_it hc h
        refine gb_pick (lv' := [(0, .ref 77), (2, .int y2), (3, .int y3), (4, .int y4), (6, .int y6), (7, .int y7)]) [0, 1, 2, 3, 5, 6] rfl ?_
        exact t_X11_round_98 hS (fun w w0 w1 w2 w3 w4 w5 hw => ih w w0 w1 w2 w3 w4 w5 hw) _ y2 y3 y4 y6 y7 h
      · have h := gb_if hc h
        refine gb_iload d_X11_round_92 rfl ?_
        refine gb_iload_n d_X11_round_94 rfl ?_
        refine gb_icmp_gt 184 d_X11_round_95 (by decide) (fun hc => ?_) (fun hc => ?_)
        · have h := gb_it hc h
          refine gb_pick (lv' := [(2, .int y2), (5, .int y5), (6, .int y6), (7, .int y7)]) [1, 4, 5, 6] rfl ?_
          exact t_X11_round_184 hS  _ y2 y5 y6 y7 h
        · have h := gb_if hc h
          refine gb_pick (lv' := [(0, .ref 77), (2, .int y2), (3, .int y3), (4, .int y4), (6, .int y6), (7, .int y7)]) [0, 1, 2, 3, 5, 6] rfl ?_
          exact t_X11_round_98 hS (fun w w0 w1 w2 w3 w4 w5 hw => ih w w0 w1 w2 w3 w4 w5 hw) _ y2 y3 y4 y6 y7 h
set_option maxRecDepth 100000 in
set_option maxHeartbeats 4000000 in
theorem t_X11_round_58 {Γ : gb_X} {sh : List gb_Sh} {out : gb_G × Int32} (hS : gb_S sh) {K29 : gb_G → Int32 → Int32 → Int32 → Int32 → Option (gb_G × Int32)} (hK29 : ∀ (g : gb_G) (y1 : Int32) (y2 : Int32) (y3 : Int32) (y4 : Int32), K29 g y1 y2 y3 y4 = some out → gb_J Γ M_X11_round 6 (gb_Ri sh out) 0 0 sh g 29 [(0, .ref 77), (1, .int y1), (2, .int y2), (3, .int y3), (4, .int y4)] []) : ∀ (g : gb_G) (y1 : Int32) (y2 : Int32) (y4 : Int32) (z0 : Int32) (z1 : Int32), f_X11_round_58 sh K29 g y1 y2 y4 z0 z1 = some out → gb_J Γ M_X11_round 6 (gb_Ri sh out) 0 0 sh g 58 [(0, .ref 77), (1, .int y1), (2, .int y2), (4, .int y4)] [.int z0, .int z1] := by
  intro g y1 y2 y4 z0 z1 h
  unfold f_X11_round_58 at h
  refine gb_ior d_X11_round_58 ?_
  refine gb_istore_n [(3, .int (z1 ||| z0)), (0, .ref 77), (1, .int y1), (2, .int y2), (4, .int y4)] d_X11_round_59 (Nat.le_of_ble_eq_true rfl) rfl ?_
  refine gb_iinc (y4 + 1) [(4, .int (y4 + 1)), (3, .int (z1 ||| z0)), (0, .ref 77), (1, .int y1), (2, .int y2)] d_X11_round_60 (Nat.le_of_ble_eq_true rfl) rfl rfl rfl ?_
  refine gb_goto 29 d_X11_round_63 (by decide) ?_
  refine gb_pick (lv' := [(0, .ref 77), (1, .int y1), (2, .int y2), (3, .int (z1 ||| z0)), (4, .int (y4 + 1))]) [2, 3, 4, 1, 0] rfl ?_
  exact hK29 _ y1 y2 (z1 ||| z0) (y4 + 1) h
set_option maxRecDepth 100000 in
set_option maxHeartbeats 4000000 in
theorem t_X11_round_29 {Γ : gb_X} {sh : List gb_Sh} {out : gb_G × Int32} (hS : gb_S sh) : ∀ (n : Nat) (g : gb_G) (y1 : Int32) (y2 : Int32) (y3 : Int32) (y4 : Int32), f_X11_round_29 sh n g y1 y2 y3 y4 = some out → gb_J Γ M_X11_round 6 (gb_Ri sh out) 0 0 sh g 29 [(0, .ref 77), (1, .int y1), (2, .int y2), (3, .int y3), (4, .int y4)] [] := by
  intro n
  induction n with
  | zero => intro g y1 y2 y3 y4 h; cases h
  | succ n ih =>
    intro g y1 y2 y3 y4 h
    rw [f_X11_round_29] at h
    refine gb_iload d_X11_round_29 rfl ?_
    refine gb_aload_n d_X11_round_31 rfl ?_
    refine gb_getr (r := 79) f_X11_13 (hS 77 _ rfl) rfl d_X11_round_32 ?_
    refine gb_iconst 0 d_X11_round_35 rfl ?_
    refine gb_iald_ 0 rfl (hS 79 _ rfl) (by unfold vp_in; decide) d_X11_round_36 ?_
    refine gb_icmp_ge 66 d_X11_round_37 (by decide) (fun hc => ?_) (fun hc => ?_)
    · have h := gb_it hc h
      refine gb_aload_n d_X11_round_66 rfl ?_
      refine gb_iload_n d_X11_round_67 rfl ?_
      obtain ⟨r4, e5, h⟩ := gb_bd_e h
      refine gb_cVv (As := [.int y3]) (rest := []) m_X11_479 (t_X11_layRounds (Γ := Γ) hS e5) (hS 77 _ rfl) rfl (Nat.le_of_ble_eq_true rfl) rfl rfl (Nat.le_of_ble_eq_true rfl) d_X11_round_68 ?_
      refine gb_iload_n d_X11_round_71 rfl ?_
      refine gb_istore [(4, .int y1), (0, .ref 77), (1, .int y1), (2, .int y2), (3, .int y3)] d_X11_round_72 (Nat.le_of_ble_eq_true rfl) rfl ?_
      refine gb_iconst (-1) d_X11_round_74 rfl ?_
      refine gb_istore [(5, .int (-1)), (4, .int y1), (0, .ref 77), (1, .int y1), (2, .int y2), (3, .int y3)] d_X11_round_75 (Nat.le_of_ble_eq_true rfl) rfl ?_
      refine gb_iconst 0 d_X11_round_77 rfl ?_
      refine gb_istore [(6, .int 0), (5, .int (-1)), (4, .int y1), (0, .ref 77), (1, .int y1), (2, .int y2), (3, .int y3)] d_X11_round_78 (Nat.le_of_ble_eq_true rfl) rfl ?_
      refine gb_iconst 0 d_X11_round_80 rfl ?_
      refine gb_istore [(7, .int 0), (6, .int 0), (5, .int (-1)), (4, .int y1), (0, .ref 77), (1, .int y1), (2, .int y2), (3, .int y3)] d_X11_round_81 (Nat.le_of_ble_eq_true rfl) rfl ?_
      refine gb_pick (lv' := [(0, .ref 77), (2, .int y2), (3, .int y3), (4, .int y1), (5, .int (-1)), (6, .int 0), (7, .int 0)]) [4, 6, 7, 3, 2, 1, 0] rfl ?_
      exact t_X11_round_83 hS  gb_N _ y2 y3 y1 (-1) 0 0 h
    · have h := gb_if hc h
      refine gb_iload_n d_X11_round_40 rfl ?_
      refine gb_aload_n d_X11_round_41 rfl ?_
      refine gb_iload d_X11_round_42 rfl ?_
      obtain ⟨r16, e17, h⟩ := gb_bd_e h
      refine gb_cVi (As := [.int y4]) (rest := [.int y3]) m_X11_192 (t_X11_countsOf (Γ := Γ) hS e17) (hS 77 _ rfl) rfl (Nat.le_of_ble_eq_true rfl) rfl rfl (Nat.le_of_ble_eq_true rfl) d_X11_round_44 ?_
      refine gb_if_le 57 d_X11_round_47 (by decide) (fun hc => ?_) (fun hc => ?_)
      · have h := gb_it hc h
        refine gb_iconst 0 d_X11_round_57 rfl ?_
        refine gb_pick (lv' := [(0, .ref 77), (1, .int y1), (2, .int y2), (4, .int y4)]) [0, 1, 2, 4] rfl ?_
        exact t_X11_round_58 hS (fun w w0 w1 w2 w3 hw => ih w w0 w1 w2 w3 hw) _ y1 y2 y4 0 y3 h
      · have h := gb_if hc h
        refine gb_iconst 1 d_X11_round_50 rfl ?_
        refine gb_iload d_X11_round_51 rfl ?_
        refine gb_ishl d_X11_round_53 ?_
        refine gb_goto 58 d_X11_round_54 (by decide) ?_
        refine gb_pick (lv' := [(0, .ref 77), (1, .int y1), (2, .int y2), (4, .int y4)]) [0, 1, 2, 4] rfl ?_
        exact t_X11_round_58 hS (fun w w0 w1 w2 w3 hw => ih w w0 w1 w2 w3 hw) _ y1 y2 y4 ((1 : Int32) <<< (y4 &&& 31)) y3 h
set_option maxRecDepth 100000 in
set_option maxHeartbeats 4000000 in
theorem t_X11_round {Γ : gb_X} {sh : List gb_Sh} {x1 : Int32} {x2 : Int32} {out : gb_G × Int32} (hS : gb_S sh) {g : gb_G} (h : f_X11_round sh g x1 x2 = some out) : gb_C Γ M_X11_round 6 0 0 sh g [.ref 77, .int x1, .int x2] (gb_Ri sh out) := by
  refine gb_C.of rfl (Nat.le_of_ble_eq_true rfl) ?_
  refine gb_pick (lv' := [(0, .ref 77), (1, .int x1), (2, .int x2)]) [0, 1, 2] rfl ?_
  unfold f_X11_round at h
  refine gb_aload_n d_X11_round_0 rfl ?_
  refine gb_iconst 0 d_X11_round_1 rfl ?_
  refine gb_puti f_X11_145 (fun h => nomatch h) (hS 77 _ rfl) rfl rfl rfl d_X11_round_2 ?_
  have h := gb_let_e h
  generalize gb_pi g 77 0 0 = g1 at h ⊢
  refine gb_iload_n d_X11_round_5 rfl ?_
  refine gb_i2l d_X11_round_6 ?_
  refine gb_lconst 0 d_X11_round_7 rfl ?_
  refine gb_ldc2 24 k_X11_178 d_X11_round_8 ?_
  obtain ⟨r2, e3, h⟩ := gb_bd_e h
  refine gb_cSi (As := [.long x1.toInt64, .long 0, .long 24]) (rest := []) m_X11_165 (t_X11_in (Γ := Γ) hS e3) (Nat.le_of_ble_eq_true rfl) rfl rfl (Nat.le_of_ble_eq_true rfl) d_X11_round_11 ?_
  refine gb_if_eq 22 d_X11_round_14 (by decide) (fun hc => ?_) (fun hc => ?_)
  · have h := gb_it hc h
    refine gb_iconst (-1) d_X11_round_22 rfl ?_
    cases h
    exact gb_iret d_X11_round_23 rfl ⟨rfl, rfl, rfl⟩
  · have h := gb_if hc h
    refine gb_iload_n d_X11_round_17 rfl ?_
    refine gb_iconst (-1) d_X11_round_18 rfl ?_
    refine gb_icmp_ge 24 d_X11_round_19 (by decide) (fun hc => ?_) (fun hc => ?_)
    · have h := gb_it hc h
      refine gb_iconst 0 d_X11_round_24 rfl ?_
      refine gb_istore_n [(3, .int 0), (0, .ref 77), (1, .int x1), (2, .int x2)] d_X11_round_25 (Nat.le_of_ble_eq_true rfl) rfl ?_
      refine gb_iconst 0 d_X11_round_26 rfl ?_
      refine gb_istore [(4, .int 0), (3, .int 0), (0, .ref 77), (1, .int x1), (2, .int x2)] d_X11_round_27 (Nat.le_of_ble_eq_true rfl) rfl ?_
      refine gb_pick (lv' := [(0, .ref 77), (1, .int x1), (2, .int x2), (3, .int 0), (4, .int 0)]) [2, 3, 4, 1, 0] rfl ?_
      exact t_X11_round_29 hS  gb_N _ x1 x2 0 0 h
    · have h := gb_if hc h
      refine gb_iconst (-1) d_X11_round_22 rfl ?_
      cases h
      exact gb_iret d_X11_round_23 rfl ⟨rfl, rfl, rfl⟩
-- X11_isBought
noncomputable def f_X11_isBought_83 (sh : List gb_Sh) (K12 : gb_G → Int32 → Int32 → Int32 → Int32 → Int32 → Int32 → Int32 → Option (gb_G × Int32)) (g : gb_G) (y1 : Int32) (y2 : Int32) (y3 : Int32) (y4 : Int32) (y5 : Int32) (y6 : Int32) (y7 : Int32) : Option (gb_G × Int32) := K12 g y1 y2 y3 y4 y5 y6 (y7 + 1)
noncomputable def f_X11_isBought_81 (sh : List gb_Sh) (K83 : gb_G → Int32 → Int32 → Int32 → Int32 → Int32 → Int32 → Int32 → Option (gb_G × Int32)) (g : gb_G) (y1 : Int32) (y2 : Int32) (y3 : Int32) (y4 : Int32) (y5 : Int32) (y7 : Int32) (z0 : Int32) : Option (gb_G × Int32) := K83 g y1 y2 y3 y4 y5 z0 y7
noncomputable def f_X11_isBought_12 (sh : List gb_Sh) : Nat → gb_G → Int32 → Int32 → Int32 → Int32 → Int32 → Int32 → Int32 → Option (gb_G × Int32)
  | 0, _, _, _, _, _, _, _, _ => none
  | n + 1, g, y1, y2, y3, y4, y5, y6, y7 => if (g.1 79 0) ≤ y7 then (if y6 = 0 then (some (g, 0)) else (if y4 = y2 then (if y5 = y3 then (some (g, 1)) else (some (g, 0))) else (some (g, 0)))) else (gb_bd (f_X11_is sh g y1 y7) (fun r1 => if r1.2 = 0 then (f_X11_isBought_83 sh (fun w w0 w1 w2 w3 w4 w5 w6 => f_X11_isBought_12 sh n w w0 w1 w2 w3 w4 w5 w6) r1.1 y1 y2 y3 y4 y5 y6 y7) else (gb_ck (8 + y7) 5520 (gb_bd (f_X11_gladsOf sh r1.1 y7) (fun r4 => if y6 = 0 then (f_X11_isBought_81 sh (fun w w0 w1 w2 w3 w4 w5 w6 => f_X11_isBought_83 sh (fun w w0 w1 w2 w3 w4 w5 w6 => f_X11_isBought_12 sh n w w0 w1 w2 w3 w4 w5 w6) w w0 w1 w2 w3 w4 w5 w6) r4.1 y1 y2 y3 (y4 + (r1.1.1 79 ((8 + y7).toNatClampNeg))) (y5 + r4.2) y7 0) else (gb_ck (16 + y7) 5520 (if (r4.1.1 79 ((16 + y7).toNatClampNeg)) = 0 then (f_X11_isBought_81 sh (fun w w0 w1 w2 w3 w4 w5 w6 => f_X11_isBought_83 sh (fun w w0 w1 w2 w3 w4 w5 w6 => f_X11_isBought_12 sh n w w0 w1 w2 w3 w4 w5 w6) w w0 w1 w2 w3 w4 w5 w6) r4.1 y1 y2 y3 (y4 + (r1.1.1 79 ((8 + y7).toNatClampNeg))) (y5 + r4.2) y7 1) else (f_X11_isBought_81 sh (fun w w0 w1 w2 w3 w4 w5 w6 => f_X11_isBought_83 sh (fun w w0 w1 w2 w3 w4 w5 w6 => f_X11_isBought_12 sh n w w0 w1 w2 w3 w4 w5 w6) w w0 w1 w2 w3 w4 w5 w6) r4.1 y1 y2 y3 (y4 + (r1.1.1 79 ((8 + y7).toNatClampNeg))) (y5 + r4.2) y7 0))))))))
noncomputable def f_X11_isBought (sh : List gb_Sh) (g : gb_G) (x1 : Int32) (x2 : Int32) (x3 : Int32) : Option (gb_G × Int32) := f_X11_isBought_12 sh gb_N g x1 x2 x3 0 0 1 0
set_option maxRecDepth 100000 in
set_option maxHeartbeats 4000000 in
theorem t_X11_isBought_83 {Γ : gb_X} {sh : List gb_Sh} {out : gb_G × Int32} (hS : gb_S sh) {K12 : gb_G → Int32 → Int32 → Int32 → Int32 → Int32 → Int32 → Int32 → Option (gb_G × Int32)} (hK12 : ∀ (g : gb_G) (y1 : Int32) (y2 : Int32) (y3 : Int32) (y4 : Int32) (y5 : Int32) (y6 : Int32) (y7 : Int32), K12 g y1 y2 y3 y4 y5 y6 y7 = some out → gb_J Γ M_X11_isBought 6 (gb_Ri sh out) 0 0 sh g 12 [(0, .ref 77), (1, .int y1), (2, .int y2), (3, .int y3), (4, .int y4), (5, .int y5), (6, .int y6), (7, .int y7)] []) : ∀ (g : gb_G) (y1 : Int32) (y2 : Int32) (y3 : Int32) (y4 : Int32) (y5 : Int32) (y6 : Int32) (y7 : Int32), f_X11_isBought_83 sh K12 g y1 y2 y3 y4 y5 y6 y7 = some out → gb_J Γ M_X11_isBought 6 (gb_Ri sh out) 0 0 sh g 83 [(0, .ref 77), (1, .int y1), (2, .int y2), (3, .int y3), (4, .int y4), (5, .int y5), (6, .int y6), (7, .int y7)] [] := by
  intro g y1 y2 y3 y4 y5 y6 y7 h
  unfold f_X11_isBought_83 at h
  refine gb_iinc (y7 + 1) [(7, .int (y7 + 1)), (0, .ref 77), (1, .int y1), (2, .int y2), (3, .int y3), (4, .int y4), (5, .int y5), (6, .int y6)] d_X11_isBought_83 (Nat.le_of_ble_eq_true rfl) rfl rfl rfl ?_
  refine gb_goto 12 d_X11_isBought_86 (by decide) ?_
  refine gb_pick (lv' := [(0, .ref 77), (1, .int y1), (2, .int y2), (3, .int y3), (4, .int y4), (5, .int y5), (6, .int y6), (7, .int (y7 + 1))]) [1, 2, 3, 4, 5, 6, 7, 0] rfl ?_
  exact hK12 _ y1 y2 y3 y4 y5 y6 (y7 + 1) h
set_option maxRecDepth 100000 in
set_option maxHeartbeats 4000000 in
theorem t_X11_isBought_81 {Γ : gb_X} {sh : List gb_Sh} {out : gb_G × Int32} (hS : gb_S sh) {K83 : gb_G → Int32 → Int32 → Int32 → Int32 → Int32 → Int32 → Int32 → Option (gb_G × Int32)} (hK83 : ∀ (g : gb_G) (y1 : Int32) (y2 : Int32) (y3 : Int32) (y4 : Int32) (y5 : Int32) (y6 : Int32) (y7 : Int32), K83 g y1 y2 y3 y4 y5 y6 y7 = some out → gb_J Γ M_X11_isBought 6 (gb_Ri sh out) 0 0 sh g 83 [(0, .ref 77), (1, .int y1), (2, .int y2), (3, .int y3), (4, .int y4), (5, .int y5), (6, .int y6), (7, .int y7)] []) : ∀ (g : gb_G) (y1 : Int32) (y2 : Int32) (y3 : Int32) (y4 : Int32) (y5 : Int32) (y7 : Int32) (z0 : Int32), f_X11_isBought_81 sh K83 g y1 y2 y3 y4 y5 y7 z0 = some out → gb_J Γ M_X11_isBought 6 (gb_Ri sh out) 0 0 sh g 81 [(0, .ref 77), (1, .int y1), (2, .int y2), (3, .int y3), (4, .int y4), (5, .int y5), (7, .int y7)] [.int z0] := by
  intro g y1 y2 y3 y4 y5 y7 z0 h
  unfold f_X11_isBought_81 at h
  refine gb_istore [(6, .int z0), (0, .ref 77), (1, .int y1), (2, .int y2), (3, .int y3), (4, .int y4), (5, .int y5), (7, .int y7)] d_X11_isBought_81 (Nat.le_of_ble_eq_true rfl) rfl ?_
  refine gb_pick (lv' := [(0, .ref 77), (1, .int y1), (2, .int y2), (3, .int y3), (4, .int y4), (5, .int y5), (6, .int z0), (7, .int y7)]) [1, 2, 3, 4, 5, 6, 0, 7] rfl ?_
  exact hK83 _ y1 y2 y3 y4 y5 z0 y7 h
set_option maxRecDepth 100000 in
set_option maxHeartbeats 4000000 in
theorem t_X11_isBought_12 {Γ : gb_X} {sh : List gb_Sh} {out : gb_G × Int32} (hS : gb_S sh) : ∀ (n : Nat) (g : gb_G) (y1 : Int32) (y2 : Int32) (y3 : Int32) (y4 : Int32) (y5 : Int32) (y6 : Int32) (y7 : Int32), f_X11_isBought_12 sh n g y1 y2 y3 y4 y5 y6 y7 = some out → gb_J Γ M_X11_isBought 6 (gb_Ri sh out) 0 0 sh g 12 [(0, .ref 77), (1, .int y1), (2, .int y2), (3, .int y3), (4, .int y4), (5, .int y5), (6, .int y6), (7, .int y7)] [] := by
  intro n
  induction n with
  | zero => intro g y1 y2 y3 y4 y5 y6 y7 h; cases h
  | succ n ih =>
    intro g y1 y2 y3 y4 y5 y6 y7 h
    rw [f_X11_isBought_12] at h
    refine gb_iload d_X11_isBought_12 rfl ?_
    refine gb_aload_n d_X11_isBought_14 rfl ?_
    refine gb_getr (r := 79) f_X11_13 (hS 77 _ rfl) rfl d_X11_isBought_15 ?_
    refine gb_iconst 0 d_X11_isBought_18 rfl ?_
    refine gb_iald_ 0 rfl (hS 79 _ rfl) (by unfold vp_in; decide) d_X11_isBought_19 ?_
    refine gb_icmp_ge 89 d_X11_isBought_20 (by decide) (fun hc => ?_) (fun hc => ?_)
    · have h := gb_it hc h
      refine gb_iload d_X11_isBought_89 rfl ?_
      refine gb_if_eq 110 d_X11_isBought_91 (by decide) (fun hc => ?_) (fun hc => ?_)
      · have h := gb_it hc h
        refine gb_iconst 0 d_X11_isBought_110 rfl ?_
        cases h
        exact gb_zret d_X11_isBought_111 rfl rfl ⟨rfl, rfl, rfl⟩
      · have h := gb_if hc h
        refine gb_iload d_X11_isBought_94 rfl ?_
        refine gb_iload_n d_X11_isBought_96 rfl ?_
        refine gb_icmp_ne 110 d_X11_isBought_97 (by decide) (fun hc => ?_) (fun hc => ?_)
        · have h := gb_if hc h
          refine gb_iconst 0 d_X11_isBought_110 rfl ?_
          cases h
          exact gb_zret d_X11_isBought_111 rfl rfl ⟨rfl, rfl, rfl⟩
        · have h := gb_it hc h
          refine gb_iload d_X11_isBought_100 rfl ?_
          refine gb_iload_n d_X11_isBought_102 rfl ?_
          refine gb_icmp_ne 110 d_X11_isBought_103 (by decide) (fun hc => ?_) (fun hc => ?_)
          · have h := gb_if hc h
            refine gb_iconst 0 d_X11_isBought_110 rfl ?_
            cases h
            exact gb_zret d_X11_isBought_111 rfl rfl ⟨rfl, rfl, rfl⟩
          · have h := gb_it hc h
            refine gb_iconst 1 d_X11_isBought_106 rfl ?_
            refine gb_goto 111 d_X11_isBought_107 (by decide) ?_
            cases h
            exact gb_zret d_X11_isBought_111 rfl rfl ⟨rfl, rfl, rfl⟩
    · have h := gb_if hc h
      refine gb_iload_n d_X11_isBought_23 rfl ?_
      refine gb_iload d_X11_isBought_24 rfl ?_
      obtain ⟨r1, e2, h⟩ := gb_bd_e h
      refine gb_cSi (As := [.int y1, .int y7]) (rest := []) m_X11_469 (t_X11_is (Γ := Γ) hS e2) (Nat.le_of_ble_eq_true rfl) rfl rfl (Nat.le_of_ble_eq_true rfl) d_X11_isBought_26 ?_
      refine gb_if_eq 83 d_X11_isBought_29 (by decide) (fun hc => ?_) (fun hc => ?_)
      · have h := gb_it hc h
        exact t_X11_isBought_83 hS (fun w w0 w1 w2 w3 w4 w5 w6 hw => ih w w0 w1 w2 w3 w4 w5 w6 hw) _ y1 y2 y3 y4 y5 y6 y7 h
      · have h := gb_if hc h
        refine gb_iload d_X11_isBought_32 rfl ?_
        refine gb_aload_n d_X11_isBought_34 rfl ?_
        refine gb_getr (r := 79) f_X11_13 (hS 77 _ rfl) rfl d_X11_isBought_35 ?_
        refine gb_bipush 8 d_X11_isBought_38 rfl ?_
        refine gb_iload d_X11_isBought_40 rfl ?_
        refine gb_iadd d_X11_isBought_42 ?_
        obtain ⟨hi3, h⟩ := gb_ck_e h
        refine gb_iald_ ((8 + y7).toNatClampNeg) rfl (hS 79 _ rfl) hi3 d_X11_isBought_43 ?_
        refine gb_iadd d_X11_isBought_44 ?_
        refine gb_istore [(4, .int (y4 + (r1.1.1 79 ((8 + y7).toNatClampNeg)))), (0, .ref 77), (1, .int y1), (2, .int y2), (3, .int y3), (5, .int y5), (6, .int y6), (7, .int y7)] d_X11_isBought_45 (Nat.le_of_ble_eq_true rfl) rfl ?_
        refine gb_iload d_X11_isBought_47 rfl ?_
        refine gb_aload_n d_X11_isBought_49 rfl ?_
        refine gb_iload d_X11_isBought_50 rfl ?_
        obtain ⟨r4, e5, h⟩ := gb_bd_e h
        refine gb_cVi (As := [.int y7]) (rest := [.int y5]) m_X11_195 (t_X11_gladsOf (Γ := Γ) hS e5) (hS 77 _ rfl) rfl (Nat.le_of_ble_eq_true rfl) rfl rfl (Nat.le_of_ble_eq_true rfl) d_X11_isBought_52 ?_
        refine gb_iadd d_X11_isBought_55 ?_
        refine gb_istore [(5, .int (y5 + r4.2)), (4, .int (y4 + (r1.1.1 79 ((8 + y7).toNatClampNeg)))), (0, .ref 77), (1, .int y1), (2, .int y2), (3, .int y3), (6, .int y6), (7, .int y7)] d_X11_isBought_56 (Nat.le_of_ble_eq_true rfl) rfl ?_
        refine gb_iload d_X11_isBought_58 rfl ?_
        refine gb_if_eq 80 d_X11_isBought_60 (by decide) (fun hc => ?_) (fun hc => ?_)
        · have h := gb_it hc h
          refine gb_iconst 0 d_X11_isBought_80 rfl ?_
          refine gb_pick (lv' := [(0, .ref 77), (1, .int y1), (2, .int y2), (3, .int y3), (4, .int (y4 + (r1.1.1 79 ((8 + y7).toNatClampNeg)))), (5, .int (y5 + r4.2)), (7, .int y7)]) [2, 3, 4, 5, 1, 0, 7] rfl ?_
          exact t_X11_isBought_81 hS (fun w w0 w1 w2 w3 w4 w5 w6 hw => t_X11_isBought_83 hS (fun w w0 w1 w2 w3 w4 w5 w6 hw => ih w w0 w1 w2 w3 w4 w5 w6 hw) w w0 w1 w2 w3 w4 w5 w6 hw) _ y1 y2 y3 (y4 + (r1.1.1 79 ((8 + y7).toNatClampNeg))) (y5 + r4.2) y7 0 h
        · have h := gb_if hc h
          refine gb_aload_n d_X11_isBought_63 rfl ?_
          refine gb_getr (r := 79) f_X11_13 (hS 77 _ rfl) rfl d_X11_isBought_64 ?_
          refine gb_bipush 16 d_X11_isBought_67 rfl ?_
          refine gb_iload d_X11_isBought_69 rfl ?_
          refine gb_iadd d_X11_isBought_71 ?_
          obtain ⟨hi6, h⟩ := gb_ck_e h
          refine gb_iald_ ((16 + y7).toNatClampNeg) rfl (hS 79 _ rfl) hi6 d_X11_isBought_72 ?_
          refine gb_if_ne 80 d_X11_isBought_73 (by decide) (fun hc => ?_) (fun hc => ?_)
          · have h := gb_if hc h
            refine gb_iconst 0 d_X11_isBought_80 rfl ?_
            refine gb_pick (lv' := [(0, .ref 77), (1, .int y1), (2, .int y2), (3, .int y3), (4, .int (y4 + (r1.1.1 79 ((8 + y7).toNatClampNeg)))), (5, .int (y5 + r4.2)), (7, .int y7)]) [2, 3, 4, 5, 1, 0, 7] rfl ?_
            exact t_X11_isBought_81 hS (fun w w0 w1 w2 w3 w4 w5 w6 hw => t_X11_isBought_83 hS (fun w w0 w1 w2 w3 w4 w5 w6 hw => ih w w0 w1 w2 w3 w4 w5 w6 hw) w w0 w1 w2 w3 w4 w5 w6 hw) _ y1 y2 y3 (y4 + (r1.1.1 79 ((8 + y7).toNatClampNeg))) (y5 + r4.2) y7 0 h
          · have h := gb_it hc h
            refine gb_iconst 1 d_X11_isBought_76 rfl ?_
            refine gb_goto 81 d_X11_isBought_77 (by decide) ?_
            refine gb_pick (lv' := [(0, .ref 77), (1, .int y1), (2, .int y2), (3, .int y3), (4, .int (y4 + (r1.1.1 79 ((8 + y7).toNatClampNeg)))), (5, .int (y5 + r4.2)), (7, .int y7)]) [2, 3, 4, 5, 1, 0, 7] rfl ?_
            exact t_X11_isBought_81 hS (fun w w0 w1 w2 w3 w4 w5 w6 hw => t_X11_isBought_83 hS (fun w w0 w1 w2 w3 w4 w5 w6 hw => ih w w0 w1 w2 w3 w4 w5 w6 hw) w w0 w1 w2 w3 w4 w5 w6 hw) _ y1 y2 y3 (y4 + (r1.1.1 79 ((8 + y7).toNatClampNeg))) (y5 + r4.2) y7 1 h
set_option maxRecDepth 100000 in
set_option maxHeartbeats 4000000 in
theorem t_X11_isBought {Γ : gb_X} {sh : List gb_Sh} {x1 : Int32} {x2 : Int32} {x3 : Int32} {out : gb_G × Int32} (hS : gb_S sh) {g : gb_G} (h : f_X11_isBought sh g x1 x2 x3 = some out) : gb_C Γ M_X11_isBought 6 0 0 sh g [.ref 77, .int x1, .int x2, .int x3] (gb_Ri sh out) := by
  refine gb_C.of rfl (Nat.le_of_ble_eq_true rfl) ?_
  refine gb_pick (lv' := [(0, .ref 77), (1, .int x1), (2, .int x2), (3, .int x3)]) [0, 1, 2, 3] rfl ?_
  unfold f_X11_isBought at h
  refine gb_iconst 0 d_X11_isBought_0 rfl ?_
  refine gb_istore [(4, .int 0), (0, .ref 77), (1, .int x1), (2, .int x2), (3, .int x3)] d_X11_isBought_1 (Nat.le_of_ble_eq_true rfl) rfl ?_
  refine gb_iconst 0 d_X11_isBought_3 rfl ?_
  refine gb_istore [(5, .int 0), (4, .int 0), (0, .ref 77), (1, .int x1), (2, .int x2), (3, .int x3)] d_X11_isBought_4 (Nat.le_of_ble_eq_true rfl) rfl ?_
  refine gb_iconst 1 d_X11_isBought_6 rfl ?_
  refine gb_istore [(6, .int 1), (5, .int 0), (4, .int 0), (0, .ref 77), (1, .int x1), (2, .int x2), (3, .int x3)] d_X11_isBought_7 (Nat.le_of_ble_eq_true rfl) rfl ?_
  refine gb_iconst 0 d_X11_isBought_9 rfl ?_
  refine gb_istore [(7, .int 0), (6, .int 1), (5, .int 0), (4, .int 0), (0, .ref 77), (1, .int x1), (2, .int x2), (3, .int x3)] d_X11_isBought_10 (Nat.le_of_ble_eq_true rfl) rfl ?_
  refine gb_pick (lv' := [(0, .ref 77), (1, .int x1), (2, .int x2), (3, .int x3), (4, .int 0), (5, .int 0), (6, .int 1), (7, .int 0)]) [4, 5, 6, 7, 3, 2, 1, 0] rfl ?_
  exact t_X11_isBought_12 hS  gb_N _ x1 x2 x3 0 0 1 0 h
-- X11_areSpent
noncomputable def f_X11_areSpent (sh : List gb_Sh) (g : gb_G) (x1 : Int32) (x2 : Int32) : Option (gb_G × Int32) := gb_bd (f_X11_in sh g x1.toInt64 0 99) (fun r1 => if r1.2 = 0 then (some (r1.1, 0)) else (gb_bd (f_X11_in sh r1.1 x2.toInt64 0 99) (fun r3 => if r3.2 = 0 then (some (r3.1, 0)) else (some (r3.1, 1)))))
set_option maxRecDepth 100000 in
set_option maxHeartbeats 4000000 in
theorem t_X11_areSpent {Γ : gb_X} {sh : List gb_Sh} {x1 : Int32} {x2 : Int32} {out : gb_G × Int32} (hS : gb_S sh) {g : gb_G} (h : f_X11_areSpent sh g x1 x2 = some out) : gb_C Γ M_X11_areSpent 1 0 0 sh g [.int x1, .int x2] (gb_Ri sh out) := by
  refine gb_C.of rfl (Nat.le_of_ble_eq_true rfl) ?_
  refine gb_pick (lv' := [(0, .int x1), (1, .int x2)]) [0, 1] rfl ?_
  unfold f_X11_areSpent at h
  refine gb_iload_n d_X11_areSpent_0 rfl ?_
  refine gb_i2l d_X11_areSpent_1 ?_
  refine gb_lconst 0 d_X11_areSpent_2 rfl ?_
  refine gb_ldc2 99 k_X11_174 d_X11_areSpent_3 ?_
  obtain ⟨r1, e2, h⟩ := gb_bd_e h
  refine gb_cSi (As := [.long x1.toInt64, .long 0, .long 99]) (rest := []) m_X11_165 (t_X11_in (Γ := Γ) hS e2) (Nat.le_of_ble_eq_true rfl) rfl rfl (Nat.le_of_ble_eq_true rfl) d_X11_areSpent_6 ?_
  refine gb_if_eq 28 d_X11_areSpent_9 (by decide) (fun hc => ?_) (fun hc => ?_)
  · have h := gb_it hc h
    refine gb_iconst 0 d_X11_areSpent_28 rfl ?_
    cases h
    exact gb_zret d_X11_areSpent_29 rfl rfl ⟨rfl, rfl, rfl⟩
  · have h := gb_if hc h
    refine gb_iload_n d_X11_areSpent_12 rfl ?_
    refine gb_i2l d_X11_areSpent_13 ?_
    refine gb_lconst 0 d_X11_areSpent_14 rfl ?_
    refine gb_ldc2 99 k_X11_174 d_X11_areSpent_15 ?_
    obtain ⟨r3, e4, h⟩ := gb_bd_e h
    refine gb_cSi (As := [.long x2.toInt64, .long 0, .long 99]) (rest := []) m_X11_165 (t_X11_in (Γ := Γ) hS e4) (Nat.le_of_ble_eq_true rfl) rfl rfl (Nat.le_of_ble_eq_true rfl) d_X11_areSpent_18 ?_
    refine gb_if_eq 28 d_X11_areSpent_21 (by decide) (fun hc => ?_) (fun hc => ?_)
    · have h := gb_it hc h
      refine gb_iconst 0 d_X11_areSpent_28 rfl ?_
      cases h
      exact gb_zret d_X11_areSpent_29 rfl rfl ⟨rfl, rfl, rfl⟩
    · have h := gb_if hc h
      refine gb_iconst 1 d_X11_areSpent_24 rfl ?_
      refine gb_goto 29 d_X11_areSpent_25 (by decide) ?_
      cases h
      exact gb_zret d_X11_areSpent_29 rfl rfl ⟨rfl, rfl, rfl⟩
-- X11_spent
noncomputable def f_X11_spent_66 (sh : List gb_Sh) (K24 : gb_G → Int32 → Int32 → Int32 → Int32 → Int32 → Int32 → Option (gb_G × Int32)) (g : gb_G) (y1 : Int32) (y2 : Int32) (y3 : Int32) (y4 : Int32) (y5 : Int32) (y6 : Int32) : Option (gb_G × Int32) := K24 g y1 y2 y3 y4 y5 (y6 + 1)
noncomputable def f_X11_spent_61 (sh : List gb_Sh) (K66 : gb_G → Int32 → Int32 → Int32 → Int32 → Int32 → Int32 → Option (gb_G × Int32)) (g : gb_G) (y1 : Int32) (y2 : Int32) (y3 : Int32) (y4 : Int32) (y6 : Int32) (z0 : Int32) : Option (gb_G × Int32) := K66 g y1 y2 y3 (y4 + 1) z0 y6
noncomputable def f_X11_spent_24 (sh : List gb_Sh) : Nat → gb_G → Int32 → Int32 → Int32 → Int32 → Int32 → Int32 → Option (gb_G × Int32)
  | 0, _, _, _, _, _, _, _ => none
  | n + 1, g, y1, y2, y3, y4, y5, y6 => if ((1 : Int32) <<< ((g.1 79 0) &&& 31)) ≤ y6 then (if y3 = (-1) then (some (g, y4)) else (some (g, y5))) else (gb_bd (f_X11_isBought sh g y6 y1 y2) (fun r4 => if r4.2 = 0 then (f_X11_spent_66 sh (fun w w0 w1 w2 w3 w4 w5 => f_X11_spent_24 sh n w w0 w1 w2 w3 w4 w5) r4.1 y1 y2 y3 y4 y5 y6) else (if y4 = y3 then (f_X11_spent_61 sh (fun w w0 w1 w2 w3 w4 w5 => f_X11_spent_66 sh (fun w w0 w1 w2 w3 w4 w5 => f_X11_spent_24 sh n w w0 w1 w2 w3 w4 w5) w w0 w1 w2 w3 w4 w5) r4.1 y1 y2 y3 y4 y6 y6) else (f_X11_spent_61 sh (fun w w0 w1 w2 w3 w4 w5 => f_X11_spent_66 sh (fun w w0 w1 w2 w3 w4 w5 => f_X11_spent_24 sh n w w0 w1 w2 w3 w4 w5) w w0 w1 w2 w3 w4 w5) r4.1 y1 y2 y3 y4 y6 y5))))
noncomputable def f_X11_spent (sh : List gb_Sh) (g : gb_G) (x1 : Int32) (x2 : Int32) (x3 : Int32) : Option (gb_G × Int32) := gb_let (gb_pi g 77 0 0) (fun g1 => gb_bd (f_X11_areSpent sh g1 x1 x2) (fun r2 => if r2.2 = 0 then (some (r2.1, (-1))) else (f_X11_spent_24 sh gb_N r2.1 x1 x2 x3 0 (-1) 0)))
set_option maxRecDepth 100000 in
set_option maxHeartbeats 4000000 in
theorem t_X11_spent_66 {Γ : gb_X} {sh : List gb_Sh} {out : gb_G × Int32} (hS : gb_S sh) {K24 : gb_G → Int32 → Int32 → Int32 → Int32 → Int32 → Int32 → Option (gb_G × Int32)} (hK24 : ∀ (g : gb_G) (y1 : Int32) (y2 : Int32) (y3 : Int32) (y4 : Int32) (y5 : Int32) (y6 : Int32), K24 g y1 y2 y3 y4 y5 y6 = some out → gb_J Γ M_X11_spent 7 (gb_Ri sh out) 0 0 sh g 24 [(0, .ref 77), (1, .int y1), (2, .int y2), (3, .int y3), (4, .int y4), (5, .int y5), (6, .int y6)] []) : ∀ (g : gb_G) (y1 : Int32) (y2 : Int32) (y3 : Int32) (y4 : Int32) (y5 : Int32) (y6 : Int32), f_X11_spent_66 sh K24 g y1 y2 y3 y4 y5 y6 = some out → gb_J Γ M_X11_spent 7 (gb_Ri sh out) 0 0 sh g 66 [(0, .ref 77), (1, .int y1), (2, .int y2), (3, .int y3), (4, .int y4), (5, .int y5), (6, .int y6)] [] := by
  intro g y1 y2 y3 y4 y5 y6 h
  unfold f_X11_spent_66 at h
  refine gb_iinc (y6 + 1) [(6, .int (y6 + 1)), (0, .ref 77), (1, .int y1), (2, .int y2), (3, .int y3), (4, .int y4), (5, .int y5)] d_X11_spent_66 (Nat.le_of_ble_eq_true rfl) rfl rfl rfl ?_
  refine gb_goto 24 d_X11_spent_69 (by decide) ?_
  refine gb_pick (lv' := [(0, .ref 77), (1, .int y1), (2, .int y2), (3, .int y3), (4, .int y4), (5, .int y5), (6, .int (y6 + 1))]) [1, 2, 3, 4, 5, 6, 0] rfl ?_
  exact hK24 _ y1 y2 y3 y4 y5 (y6 + 1) h
set_option maxRecDepth 100000 in
set_option maxHeartbeats 4000000 in
theorem t_X11_spent_61 {Γ : gb_X} {sh : List gb_Sh} {out : gb_G × Int32} (hS : gb_S sh) {K66 : gb_G → Int32 → Int32 → Int32 → Int32 → Int32 → Int32 → Option (gb_G × Int32)} (hK66 : ∀ (g : gb_G) (y1 : Int32) (y2 : Int32) (y3 : Int32) (y4 : Int32) (y5 : Int32) (y6 : Int32), K66 g y1 y2 y3 y4 y5 y6 = some out → gb_J Γ M_X11_spent 7 (gb_Ri sh out) 0 0 sh g 66 [(0, .ref 77), (1, .int y1), (2, .int y2), (3, .int y3), (4, .int y4), (5, .int y5), (6, .int y6)] []) : ∀ (g : gb_G) (y1 : Int32) (y2 : Int32) (y3 : Int32) (y4 : Int32) (y6 : Int32) (z0 : Int32), f_X11_spent_61 sh K66 g y1 y2 y3 y4 y6 z0 = some out → gb_J Γ M_X11_spent 7 (gb_Ri sh out) 0 0 sh g 61 [(0, .ref 77), (1, .int y1), (2, .int y2), (3, .int y3), (4, .int y4), (6, .int y6)] [.int z0] := by
  intro g y1 y2 y3 y4 y6 z0 h
  unfold f_X11_spent_61 at h
  refine gb_istore [(5, .int z0), (0, .ref 77), (1, .int y1), (2, .int y2), (3, .int y3), (4, .int y4), (6, .int y6)] d_X11_spent_61 (Nat.le_of_ble_eq_true rfl) rfl ?_
  refine gb_iinc (y4 + 1) [(4, .int (y4 + 1)), (5, .int z0), (0, .ref 77), (1, .int y1), (2, .int y2), (3, .int y3), (6, .int y6)] d_X11_spent_63 (Nat.le_of_ble_eq_true rfl) rfl rfl rfl ?_
  refine gb_pick (lv' := [(0, .ref 77), (1, .int y1), (2, .int y2), (3, .int y3), (4, .int (y4 + 1)), (5, .int z0), (6, .int y6)]) [2, 3, 4, 5, 0, 1, 6] rfl ?_
  exact hK66 _ y1 y2 y3 (y4 + 1) z0 y6 h
set_option maxRecDepth 100000 in
set_option maxHeartbeats 4000000 in
theorem t_X11_spent_24 {Γ : gb_X} {sh : List gb_Sh} {out : gb_G × Int32} (hS : gb_S sh) : ∀ (n : Nat) (g : gb_G) (y1 : Int32) (y2 : Int32) (y3 : Int32) (y4 : Int32) (y5 : Int32) (y6 : Int32), f_X11_spent_24 sh n g y1 y2 y3 y4 y5 y6 = some out → gb_J Γ M_X11_spent 7 (gb_Ri sh out) 0 0 sh g 24 [(0, .ref 77), (1, .int y1), (2, .int y2), (3, .int y3), (4, .int y4), (5, .int y5), (6, .int y6)] [] := by
  intro n
  induction n with
  | zero => intro g y1 y2 y3 y4 y5 y6 h; cases h
  | succ n ih =>
    intro g y1 y2 y3 y4 y5 y6 h
    rw [f_X11_spent_24] at h
    refine gb_iload d_X11_spent_24 rfl ?_
    refine gb_iconst 1 d_X11_spent_26 rfl ?_
    refine gb_aload_n d_X11_spent_27 rfl ?_
    refine gb_getr (r := 79) f_X11_13 (hS 77 _ rfl) rfl d_X11_spent_28 ?_
    refine gb_iconst 0 d_X11_spent_31 rfl ?_
    refine gb_iald_ 0 rfl (hS 79 _ rfl) (by unfold vp_in; decide) d_X11_spent_32 ?_
    refine gb_ishl d_X11_spent_33 ?_
    refine gb_icmp_ge 72 d_X11_spent_34 (by decide) (fun hc => ?_) (fun hc => ?_)
    · have h := gb_it hc h
      refine gb_iload_n d_X11_spent_72 rfl ?_
      refine gb_iconst (-1) d_X11_spent_73 rfl ?_
      refine gb_icmp_ne 82 d_X11_spent_74 (by decide) (fun hc => ?_) (fun hc => ?_)
      · have h := gb_if hc h
        refine gb_iload d_X11_spent_82 rfl ?_
        cases h
        exact gb_iret d_X11_spent_84 rfl ⟨rfl, rfl, rfl⟩
      · have h := gb_it hc h
        refine gb_iload d_X11_spent_77 rfl ?_
        refine gb_goto 84 d_X11_spent_79 (by decide) ?_
        cases h
        exact gb_iret d_X11_spent_84 rfl ⟨rfl, rfl, rfl⟩
    · have h := gb_if hc h
      refine gb_aload_n d_X11_spent_37 rfl ?_
      refine gb_iload d_X11_spent_38 rfl ?_
      refine gb_iload_n d_X11_spent_40 rfl ?_
      refine gb_iload_n d_X11_spent_41 rfl ?_
      obtain ⟨r4, e5, h⟩ := gb_bd_e h
      refine gb_cVi (As := [.int y6, .int y1, .int y2]) (rest := []) m_X11_488 (t_X11_isBought (Γ := Γ) hS e5) (hS 77 _ rfl) rfl (Nat.le_of_ble_eq_true rfl) rfl rfl (Nat.le_of_ble_eq_true rfl) d_X11_spent_42 ?_
      refine gb_if_eq 66 d_X11_spent_45 (by decide) (fun hc => ?_) (fun hc => ?_)
      · have h := gb_it hc h
        exact t_X11_spent_66 hS (fun w w0 w1 w2 w3 w4 w5 hw => ih w w0 w1 w2 w3 w4 w5 hw) _ y1 y2 y3 y4 y5 y6 h
      · have h := gb_if hc h
        refine gb_iload d_X11_spent_48 rfl ?_
        refine gb_iload_n d_X11_spent_50 rfl ?_
        refine gb_icmp_ne 59 d_X11_spent_51 (by decide) (fun hc => ?_) (fun hc => ?_)
        · have h := gb_if hc h
          refine gb_iload d_X11_spent_59 rfl ?_
          refine gb_pick (lv' := [(0, .ref 77), (1, .int y1), (2, .int y2), (3, .int y3), (4, .int y4), (6, .int y6)]) [0, 1, 2, 3, 4, 6] rfl ?_
          exact t_X11_spent_61 hS (fun w w0 w1 w2 w3 w4 w5 hw => t_X11_spent_66 hS (fun w w0 w1 w2 w3 w4 w5 hw => ih w w0 w1 w2 w3 w4 w5 hw) w w0 w1 w2 w3 w4 w5 hw) _ y1 y2 y3 y4 y6 y5 h
        · have h := gb_it hc h
          refine gb_iload d_X11_spent_54 rfl ?_
          refine gb_goto 61 d_X11_spent_56 (by decide) ?_
          refine gb_pick (lv' := [(0, .ref 77), (1, .int y1), (2, .int y2), (3, .int y3), (4, .int y4), (6, .int y6)]) [0, 1, 2, 3, 4, 6] rfl ?_
          exact t_X11_spent_61 hS (fun w w0 w1 w2 w3 w4 w5 hw => t_X11_spent_66 hS (fun w w0 w1 w2 w3 w4 w5 hw => ih w w0 w1 w2 w3 w4 w5 hw) w w0 w1 w2 w3 w4 w5 hw) _ y1 y2 y3 y4 y6 y6 h
set_option maxRecDepth 100000 in
set_option maxHeartbeats 4000000 in
theorem t_X11_spent {Γ : gb_X} {sh : List gb_Sh} {x1 : Int32} {x2 : Int32} {x3 : Int32} {out : gb_G × Int32} (hS : gb_S sh) {g : gb_G} (h : f_X11_spent sh g x1 x2 x3 = some out) : gb_C Γ M_X11_spent 7 0 0 sh g [.ref 77, .int x1, .int x2, .int x3] (gb_Ri sh out) := by
  refine gb_C.of rfl (Nat.le_of_ble_eq_true rfl) ?_
  refine gb_pick (lv' := [(0, .ref 77), (1, .int x1), (2, .int x2), (3, .int x3)]) [0, 1, 2, 3] rfl ?_
  unfold f_X11_spent at h
  refine gb_aload_n d_X11_spent_0 rfl ?_
  refine gb_iconst 0 d_X11_spent_1 rfl ?_
  refine gb_puti f_X11_145 (fun h => nomatch h) (hS 77 _ rfl) rfl rfl rfl d_X11_spent_2 ?_
  have h := gb_let_e h
  generalize gb_pi g 77 0 0 = g1 at h ⊢
  refine gb_iload_n d_X11_spent_5 rfl ?_
  refine gb_iload_n d_X11_spent_6 rfl ?_
  obtain ⟨r2, e3, h⟩ := gb_bd_e h
  refine gb_cSi (As := [.int x1, .int x2]) (rest := []) m_X11_485 (t_X11_areSpent (Γ := Γ) hS e3) (Nat.le_of_ble_eq_true rfl) rfl rfl (Nat.le_of_ble_eq_true rfl) d_X11_spent_7 ?_
  refine gb_if_ne 15 d_X11_spent_10 (by decide) (fun hc => ?_) (fun hc => ?_)
  · have h := gb_if hc h
    refine gb_iconst 0 d_X11_spent_15 rfl ?_
    refine gb_istore [(4, .int 0), (0, .ref 77), (1, .int x1), (2, .int x2), (3, .int x3)] d_X11_spent_16 (Nat.le_of_ble_eq_true rfl) rfl ?_
    refine gb_iconst (-1) d_X11_spent_18 rfl ?_
    refine gb_istore [(5, .int (-1)), (4, .int 0), (0, .ref 77), (1, .int x1), (2, .int x2), (3, .int x3)] d_X11_spent_19 (Nat.le_of_ble_eq_true rfl) rfl ?_
    refine gb_iconst 0 d_X11_spent_21 rfl ?_
    refine gb_istore [(6, .int 0), (5, .int (-1)), (4, .int 0), (0, .ref 77), (1, .int x1), (2, .int x2), (3, .int x3)] d_X11_spent_22 (Nat.le_of_ble_eq_true rfl) rfl ?_
    refine gb_pick (lv' := [(0, .ref 77), (1, .int x1), (2, .int x2), (3, .int x3), (4, .int 0), (5, .int (-1)), (6, .int 0)]) [3, 4, 5, 6, 2, 1, 0] rfl ?_
    exact t_X11_spent_24 hS  gb_N _ x1 x2 x3 0 (-1) 0 h
  · have h := gb_it hc h
    refine gb_iconst (-1) d_X11_spent_13 rfl ?_
    cases h
    exact gb_iret d_X11_spent_14 rfl ⟨rfl, rfl, rfl⟩
-- X11_ask
noncomputable def f_X11_ask_236 (sh : List gb_Sh) (g : gb_G) (y3 : Int32) (y5 : Int32) (y6 : Int32) : Option (gb_G × Int32) := if y6 = (-1) then (some (g, y6)) else (if y3 = 0 then (some (g, y6)) else (some (g, y5)))
noncomputable def f_X11_ask_228 (sh : List gb_Sh) (K140 : gb_G → Int32 → Int32 → Int32 → Int32 → Int32 → Option (gb_G × Int32)) (g : gb_G) (y3 : Int32) (y4 : Int32) (y6 : Int32) (y7 : Int32) (z0 : Int32) : Option (gb_G × Int32) := K140 g y3 y4 z0 y6 (y7 + 1)
noncomputable def f_X11_ask_212 (sh : List gb_Sh) (K140 : gb_G → Int32 → Int32 → Int32 → Int32 → Int32 → Option (gb_G × Int32)) (g : gb_G) (y3 : Int32) (y4 : Int32) (y5 : Int32) (y7 : Int32) (y8 : Int32) (z0 : Int32) : Option (gb_G × Int32) := if y5 ≤ y8 then (f_X11_ask_228 sh K140 g y3 y4 z0 y7 y5) else (f_X11_ask_228 sh K140 g y3 y4 z0 y7 y8)
noncomputable def f_X11_ask_196 (sh : List gb_Sh) (K140 : gb_G → Int32 → Int32 → Int32 → Int32 → Int32 → Option (gb_G × Int32)) (g : gb_G) (y3 : Int32) (y4 : Int32) (y5 : Int32) (y6 : Int32) (y7 : Int32) (z0 : Int32) : Option (gb_G × Int32) := if y5 ≤ z0 then (f_X11_ask_212 sh K140 g y3 y4 y5 y7 z0 y6) else (f_X11_ask_212 sh K140 g y3 y4 y5 y7 z0 y7)
noncomputable def f_X11_ask_140 (sh : List gb_Sh) : Nat → gb_G → Int32 → Int32 → Int32 → Int32 → Int32 → Option (gb_G × Int32)
  | 0, _, _, _, _, _, _ => none
  | n + 1, g, y3, y4, y5, y6, y7 => if (g.1 79 0) ≤ y7 then (f_X11_ask_236 sh g y3 y5 y6) else (if y4 ≤ 0 then (f_X11_ask_236 sh g y3 y5 y6) else (gb_ck y7 8 (gb_ck y7 8 (if (g.1 100 y7.toNatClampNeg) ≤ (y4 - (g.1 100 y7.toNatClampNeg)) then (gb_ck y7 8 (f_X11_ask_196 sh (fun w w0 w1 w2 w3 w4 => f_X11_ask_140 sh n w w0 w1 w2 w3 w4) g y3 y4 y5 y6 y7 (y4 - (g.1 100 y7.toNatClampNeg)))) else (gb_ck y7 8 (f_X11_ask_196 sh (fun w w0 w1 w2 w3 w4 => f_X11_ask_140 sh n w w0 w1 w2 w3 w4) g y3 y4 y5 y6 y7 (g.1 100 y7.toNatClampNeg)))))))
noncomputable def f_X11_ask_123 (sh : List gb_Sh) (K55 : gb_G → Int32 → Int32 → Int32 → Int32 → Int32 → Option (gb_G × Int32)) (g : gb_G) (y1 : Int32) (y2 : Int32) (y3 : Int32) (y4 : Int32) (y5 : Int32) : Option (gb_G × Int32) := K55 g y1 y2 y3 y4 (y5 + 1)
noncomputable def f_X11_ask_115 (sh : List gb_Sh) (K85 : gb_G → Int32 → Int32 → Int32 → Int32 → Int32 → Int32 → Option (gb_G × Int32)) (g : gb_G) (y1 : Int32) (y2 : Int32) (y3 : Int32) (y4 : Int32) (y5 : Int32) (y6 : Int32) (z0 : Int32) (z1 : Int32) (z2 : Int32) : Option (gb_G × Int32) := gb_ck z2 8 (gb_let (gb_pi g 100 z2.toNatClampNeg (z1 + z0)) (fun g16 => K85 g16 y1 y2 y3 y4 y5 (y6 + 1)))
noncomputable def f_X11_ask_85 (sh : List gb_Sh) (K123 : gb_G → Int32 → Int32 → Int32 → Int32 → Int32 → Option (gb_G × Int32)) : Nat → gb_G → Int32 → Int32 → Int32 → Int32 → Int32 → Int32 → Option (gb_G × Int32)
  | 0, _, _, _, _, _, _, _ => none
  | n + 1, g, y1, y2, y3, y4, y5, y6 => if 8 ≤ y6 then (K123 g y1 y2 y3 y4 y5) else (gb_ck y6 8 (gb_bd (f_X11_is sh g y5 y6) (fun r13 => if r13.2 = 0 then (f_X11_ask_115 sh (fun w w0 w1 w2 w3 w4 w5 => f_X11_ask_85 sh K123 n w w0 w1 w2 w3 w4 w5) r13.1 y1 y2 y3 y4 y5 y6 0 (g.1 100 y6.toNatClampNeg) y6) else (f_X11_ask_115 sh (fun w w0 w1 w2 w3 w4 w5 => f_X11_ask_85 sh K123 n w w0 w1 w2 w3 w4 w5) r13.1 y1 y2 y3 y4 y5 y6 1 (g.1 100 y6.toNatClampNeg) y6))))
noncomputable def f_X11_ask_55 (sh : List gb_Sh) : Nat → gb_G → Int32 → Int32 → Int32 → Int32 → Int32 → Option (gb_G × Int32)
  | 0, _, _, _, _, _, _ => none
  | n + 1, g, y1, y2, y3, y4, y5 => if ((1 : Int32) <<< ((g.1 79 0) &&& 31)) ≤ y5 then (f_X11_ask_140 sh gb_N g y3 y4 100000000 (-1) 0) else (gb_bd (f_X11_isBought sh g y5 y1 y2) (fun r10 => if r10.2 = 0 then (f_X11_ask_123 sh (fun w w0 w1 w2 w3 w4 => f_X11_ask_55 sh n w w0 w1 w2 w3 w4) r10.1 y1 y2 y3 y4 y5) else (f_X11_ask_85 sh (fun w w0 w1 w2 w3 w4 => f_X11_ask_123 sh (fun w w0 w1 w2 w3 w4 => f_X11_ask_55 sh n w w0 w1 w2 w3 w4) w w0 w1 w2 w3 w4) gb_N r10.1 y1 y2 y3 (y4 + 1) y5 0)))
noncomputable def f_X11_ask_28 (sh : List gb_Sh) : Nat → gb_G → Int32 → Int32 → Int32 → Int32 → Option (gb_G × Int32)
  | 0, _, _, _, _, _ => none
  | n + 1, g, y1, y2, y3, y4 => if 8 ≤ y4 then (f_X11_ask_55 sh gb_N g y1 y2 y3 0 0) else (gb_ck y4 8 (gb_let (gb_pi g 100 y4.toNatClampNeg 0) (fun g18 => f_X11_ask_28 sh n g18 y1 y2 y3 (y4 + 1))))
noncomputable def f_X11_ask (sh : List gb_Sh) (g : gb_G) (x1 : Int32) (x2 : Int32) (x3 : Int32) : Option (gb_G × Int32) := gb_let (gb_pi g 77 0 0) (fun g1 => gb_bd (f_X11_areSpent sh g1 x1 x2) (fun r2 => if r2.2 = 0 then (some (r2.1, (-1))) else (gb_bd (f_X11_in sh r2.1 x3.toInt64 0 1) (fun r4 => if r4.2 = 0 then (some (r4.1, (-1))) else (f_X11_ask_28 sh gb_N r4.1 x1 x2 x3 0)))))
set_option maxRecDepth 100000 in
set_option maxHeartbeats 4000000 in
theorem t_X11_ask_236 {Γ : gb_X} {sh : List gb_Sh} {out : gb_G × Int32} (hS : gb_S sh) : ∀ (g : gb_G) (y3 : Int32) (y5 : Int32) (y6 : Int32), f_X11_ask_236 sh g y3 y5 y6 = some out → gb_J Γ M_X11_ask 7 (gb_Ri sh out) 0 0 sh g 236 [(3, .int y3), (5, .int y5), (6, .int y6)] [] := by
  intro g y3 y5 y6 h
  unfold f_X11_ask_236 at h
  refine gb_iload d_X11_ask_236 rfl ?_
  refine gb_iconst (-1) d_X11_ask_238 rfl ?_
  refine gb_icmp_eq 246 d_X11_ask_239 (by decide) (fun hc => ?_) (fun hc => ?_)
  · have h := gb_it hc h
    refine gb_iload d_X11_ask_246 rfl ?_
    refine gb_goto 253 d_X11_ask_248 (by decide) ?_
    cases h
    exact gb_iret d_X11_ask_253 rfl ⟨rfl, rfl, rfl⟩
  · have h := gb_if hc h
    refine gb_iload_n d_X11_ask_242 rfl ?_
    refine gb_if_ne 251 d_X11_ask_243 (by decide) (fun hc => ?_) (fun hc => ?_)
    · have h := gb_if hc h
      refine gb_iload d_X11_ask_251 rfl ?_
      cases h
      exact gb_iret d_X11_ask_253 rfl ⟨rfl, rfl, rfl⟩
    · have h := gb_it hc h
      refine gb_iload d_X11_ask_246 rfl ?_
      refine gb_goto 253 d_X11_ask_248 (by decide) ?_
      cases h
      exact gb_iret d_X11_ask_253 rfl ⟨rfl, rfl, rfl⟩
set_option maxRecDepth 100000 in
set_option maxHeartbeats 4000000 in
theorem t_X11_ask_228 {Γ : gb_X} {sh : List gb_Sh} {out : gb_G × Int32} (hS : gb_S sh) {K140 : gb_G → Int32 → Int32 → Int32 → Int32 → Int32 → Option (gb_G × Int32)} (hK140 : ∀ (g : gb_G) (y3 : Int32) (y4 : Int32) (y5 : Int32) (y6 : Int32) (y7 : Int32), K140 g y3 y4 y5 y6 y7 = some out → gb_J Γ M_X11_ask 7 (gb_Ri sh out) 0 0 sh g 140 [(0, .ref 77), (3, .int y3), (4, .int y4), (5, .int y5), (6, .int y6), (7, .int y7)] []) : ∀ (g : gb_G) (y3 : Int32) (y4 : Int32) (y6 : Int32) (y7 : Int32) (z0 : Int32), f_X11_ask_228 sh K140 g y3 y4 y6 y7 z0 = some out → gb_J Γ M_X11_ask 7 (gb_Ri sh out) 0 0 sh g 228 [(0, .ref 77), (3, .int y3), (4, .int y4), (6, .int y6), (7, .int y7)] [.int z0] := by
  intro g y3 y4 y6 y7 z0 h
  unfold f_X11_ask_228 at h
  refine gb_istore [(5, .int z0), (0, .ref 77), (3, .int y3), (4, .int y4), (6, .int y6), (7, .int y7)] d_X11_ask_228 (Nat.le_of_ble_eq_true rfl) rfl ?_
  refine gb_iinc (y7 + 1) [(7, .int (y7 + 1)), (5, .int z0), (0, .ref 77), (3, .int y3), (4, .int y4), (6, .int y6)] d_X11_ask_230 (Nat.le_of_ble_eq_true rfl) rfl rfl rfl ?_
  refine gb_goto 140 d_X11_ask_233 (by decide) ?_
  refine gb_pick (lv' := [(0, .ref 77), (3, .int y3), (4, .int y4), (5, .int z0), (6, .int y6), (7, .int (y7 + 1))]) [2, 3, 4, 1, 5, 0] rfl ?_
  exact hK140 _ y3 y4 z0 y6 (y7 + 1) h
set_option maxRecDepth 100000 in
set_option maxHeartbeats 4000000 in
theorem t_X11_ask_212 {Γ : gb_X} {sh : List gb_Sh} {out : gb_G × Int32} (hS : gb_S sh) {K140 : gb_G → Int32 → Int32 → Int32 → Int32 → Int32 → Option (gb_G × Int32)} (hK140 : ∀ (g : gb_G) (y3 : Int32) (y4 : Int32) (y5 : Int32) (y6 : Int32) (y7 : Int32), K140 g y3 y4 y5 y6 y7 = some out → gb_J Γ M_X11_ask 7 (gb_Ri sh out) 0 0 sh g 140 [(0, .ref 77), (3, .int y3), (4, .int y4), (5, .int y5), (6, .int y6), (7, .int y7)] []) : ∀ (g : gb_G) (y3 : Int32) (y4 : Int32) (y5 : Int32) (y7 : Int32) (y8 : Int32) (z0 : Int32), f_X11_ask_212 sh K140 g y3 y4 y5 y7 y8 z0 = some out → gb_J Γ M_X11_ask 7 (gb_Ri sh out) 0 0 sh g 212 [(0, .ref 77), (3, .int y3), (4, .int y4), (5, .int y5), (7, .int y7), (8, .int y8)] [.int z0] := by
  intro g y3 y4 y5 y7 y8 z0 h
  unfold f_X11_ask_212 at h
  refine gb_istore [(6, .int z0), (0, .ref 77), (3, .int y3), (4, .int y4), (5, .int y5), (7, .int y7), (8, .int y8)] d_X11_ask_212 (Nat.le_of_ble_eq_true rfl) rfl ?_
  refine gb_iload d_X11_ask_214 rfl ?_
  refine gb_iload d_X11_ask_216 rfl ?_
  refine gb_icmp_ge 226 d_X11_ask_218 (by decide) (fun hc => ?_) (fun hc => ?_)
  · have h := gb_it hc h
    refine gb_iload d_X11_ask_226 rfl ?_
    refine gb_pick (lv' := [(0, .ref 77), (3, .int y3), (4, .int y4), (6, .int z0), (7, .int y7)]) [1, 2, 3, 0, 5] rfl ?_
    exact t_X11_ask_228 hS hK140 _ y3 y4 z0 y7 y5 h
  · have h := gb_if hc h
    refine gb_iload d_X11_ask_221 rfl ?_
    refine gb_goto 228 d_X11_ask_223 (by decide) ?_
    refine gb_pick (lv' := [(0, .ref 77), (3, .int y3), (4, .int y4), (6, .int z0), (7, .int y7)]) [1, 2, 3, 0, 5] rfl ?_
    exact t_X11_ask_228 hS hK140 _ y3 y4 z0 y7 y8 h
set_option maxRecDepth 100000 in
set_option maxHeartbeats 4000000 in
theorem t_X11_ask_196 {Γ : gb_X} {sh : List gb_Sh} {out : gb_G × Int32} (hS : gb_S sh) {K140 : gb_G → Int32 → Int32 → Int32 → Int32 → Int32 → Option (gb_G × Int32)} (hK140 : ∀ (g : gb_G) (y3 : Int32) (y4 : Int32) (y5 : Int32) (y6 : Int32) (y7 : Int32), K140 g y3 y4 y5 y6 y7 = some out → gb_J Γ M_X11_ask 7 (gb_Ri sh out) 0 0 sh g 140 [(0, .ref 77), (3, .int y3), (4, .int y4), (5, .int y5), (6, .int y6), (7, .int y7)] []) : ∀ (g : gb_G) (y3 : Int32) (y4 : Int32) (y5 : Int32) (y6 : Int32) (y7 : Int32) (z0 : Int32), f_X11_ask_196 sh K140 g y3 y4 y5 y6 y7 z0 = some out → gb_J Γ M_X11_ask 7 (gb_Ri sh out) 0 0 sh g 196 [(0, .ref 77), (3, .int y3), (4, .int y4), (5, .int y5), (6, .int y6), (7, .int y7)] [.int z0] := by
  intro g y3 y4 y5 y6 y7 z0 h
  unfold f_X11_ask_196 at h
  refine gb_istore [(8, .int z0), (0, .ref 77), (3, .int y3), (4, .int y4), (5, .int y5), (6, .int y6), (7, .int y7)] d_X11_ask_196 (Nat.le_of_ble_eq_true rfl) rfl ?_
  refine gb_iload d_X11_ask_198 rfl ?_
  refine gb_iload d_X11_ask_200 rfl ?_
  refine gb_icmp_ge 210 d_X11_ask_202 (by decide) (fun hc => ?_) (fun hc => ?_)
  · have h := gb_it hc h
    refine gb_iload d_X11_ask_210 rfl ?_
    refine gb_pick (lv' := [(0, .ref 77), (3, .int y3), (4, .int y4), (5, .int y5), (7, .int y7), (8, .int z0)]) [1, 2, 3, 4, 6, 0] rfl ?_
    exact t_X11_ask_212 hS hK140 _ y3 y4 y5 y7 z0 y6 h
  · have h := gb_if hc h
    refine gb_iload d_X11_ask_205 rfl ?_
    refine gb_goto 212 d_X11_ask_207 (by decide) ?_
    refine gb_pick (lv' := [(0, .ref 77), (3, .int y3), (4, .int y4), (5, .int y5), (7, .int y7), (8, .int z0)]) [1, 2, 3, 4, 6, 0] rfl ?_
    exact t_X11_ask_212 hS hK140 _ y3 y4 y5 y7 z0 y7 h
set_option maxRecDepth 100000 in
set_option maxHeartbeats 4000000 in
theorem t_X11_ask_140 {Γ : gb_X} {sh : List gb_Sh} {out : gb_G × Int32} (hS : gb_S sh) : ∀ (n : Nat) (g : gb_G) (y3 : Int32) (y4 : Int32) (y5 : Int32) (y6 : Int32) (y7 : Int32), f_X11_ask_140 sh n g y3 y4 y5 y6 y7 = some out → gb_J Γ M_X11_ask 7 (gb_Ri sh out) 0 0 sh g 140 [(0, .ref 77), (3, .int y3), (4, .int y4), (5, .int y5), (6, .int y6), (7, .int y7)] [] := by
  intro n
  induction n with
  | zero => intro g y3 y4 y5 y6 y7 h; cases h
  | succ n ih =>
    intro g y3 y4 y5 y6 y7 h
    rw [f_X11_ask_140] at h
    refine gb_iload d_X11_ask_140 rfl ?_
    refine gb_aload_n d_X11_ask_142 rfl ?_
    refine gb_getr (r := 79) f_X11_13 (hS 77 _ rfl) rfl d_X11_ask_143 ?_
    refine gb_iconst 0 d_X11_ask_146 rfl ?_
    refine gb_iald_ 0 rfl (hS 79 _ rfl) (by unfold vp_in; decide) d_X11_ask_147 ?_
    refine gb_icmp_ge 236 d_X11_ask_148 (by decide) (fun hc => ?_) (fun hc => ?_)
    · have h := gb_it hc h
      refine gb_pick (lv' := [(3, .int y3), (5, .int y5), (6, .int y6)]) [1, 3, 4] rfl ?_
      exact t_X11_ask_236 hS  _ y3 y5 y6 h
    · have h := gb_if hc h
      refine gb_iload d_X11_ask_151 rfl ?_
      refine gb_if_le 236 d_X11_ask_153 (by decide) (fun hc => ?_) (fun hc => ?_)
      · have h := gb_it hc h
        refine gb_pick (lv' := [(3, .int y3), (5, .int y5), (6, .int y6)]) [1, 3, 4] rfl ?_
        exact t_X11_ask_236 hS  _ y3 y5 y6 h
      · have h := gb_if hc h
        refine gb_aload_n d_X11_ask_156 rfl ?_
        refine gb_getr (r := 100) f_X11_116 (hS 77 _ rfl) rfl d_X11_ask_157 ?_
        refine gb_iload d_X11_ask_160 rfl ?_
        obtain ⟨hi6, h⟩ := gb_ck_e h
        refine gb_iald_ y7.toNatClampNeg rfl (hS 100 _ rfl) hi6 d_X11_ask_162 ?_
        refine gb_iload d_X11_ask_163 rfl ?_
        refine gb_aload_n d_X11_ask_165 rfl ?_
        refine gb_getr (r := 100) f_X11_116 (hS 77 _ rfl) rfl d_X11_ask_166 ?_
        refine gb_iload d_X11_ask_169 rfl ?_
        obtain ⟨hi7, h⟩ := gb_ck_e h
        refine gb_iald_ y7.toNatClampNeg rfl (hS 100 _ rfl) hi7 d_X11_ask_171 ?_
        refine gb_isub d_X11_ask_172 ?_
        refine gb_icmp_le 186 d_X11_ask_173 (by decide) (fun hc => ?_) (fun hc => ?_)
        · have h := gb_it hc h
          refine gb_iload d_X11_ask_186 rfl ?_
          refine gb_aload_n d_X11_ask_188 rfl ?_
          refine gb_getr (r := 100) f_X11_116 (hS 77 _ rfl) rfl d_X11_ask_189 ?_
          refine gb_iload d_X11_ask_192 rfl ?_
          obtain ⟨hi8, h⟩ := gb_ck_e h
          refine gb_iald_ y7.toNatClampNeg rfl (hS 100 _ rfl) hi8 d_X11_ask_194 ?_
          refine gb_isub d_X11_ask_195 ?_
          exact t_X11_ask_196 hS (fun w w0 w1 w2 w3 w4 hw => ih w w0 w1 w2 w3 w4 hw) _ y3 y4 y5 y6 y7 (y4 - (g.1 100 y7.toNatClampNeg)) h
        · have h := gb_if hc h
          refine gb_aload_n d_X11_ask_176 rfl ?_
          refine gb_getr (r := 100) f_X11_116 (hS 77 _ rfl) rfl d_X11_ask_177 ?_
          refine gb_iload d_X11_ask_180 rfl ?_
          obtain ⟨hi9, h⟩ := gb_ck_e h
          refine gb_iald_ y7.toNatClampNeg rfl (hS 100 _ rfl) hi9 d_X11_ask_182 ?_
          refine gb_goto 196 d_X11_ask_183 (by decide) ?_
          exact t_X11_ask_196 hS (fun w w0 w1 w2 w3 w4 hw => ih w w0 w1 w2 w3 w4 hw) _ y3 y4 y5 y6 y7 (g.1 100 y7.toNatClampNeg) h
set_option maxRecDepth 100000 in
set_option maxHeartbeats 4000000 in
theorem t_X11_ask_123 {Γ : gb_X} {sh : List gb_Sh} {out : gb_G × Int32} (hS : gb_S sh) {K55 : gb_G → Int32 → Int32 → Int32 → Int32 → Int32 → Option (gb_G × Int32)} (hK55 : ∀ (g : gb_G) (y1 : Int32) (y2 : Int32) (y3 : Int32) (y4 : Int32) (y5 : Int32), K55 g y1 y2 y3 y4 y5 = some out → gb_J Γ M_X11_ask 7 (gb_Ri sh out) 0 0 sh g 55 [(0, .ref 77), (1, .int y1), (2, .int y2), (3, .int y3), (4, .int y4), (5, .int y5)] []) : ∀ (g : gb_G) (y1 : Int32) (y2 : Int32) (y3 : Int32) (y4 : Int32) (y5 : Int32), f_X11_ask_123 sh K55 g y1 y2 y3 y4 y5 = some out → gb_J Γ M_X11_ask 7 (gb_Ri sh out) 0 0 sh g 123 [(0, .ref 77), (1, .int y1), (2, .int y2), (3, .int y3), (4, .int y4), (5, .int y5)] [] := by
  intro g y1 y2 y3 y4 y5 h
  unfold f_X11_ask_123 at h
  refine gb_iinc (y5 + 1) [(5, .int (y5 + 1)), (0, .ref 77), (1, .int y1), (2, .int y2), (3, .int y3), (4, .int y4)] d_X11_ask_123 (Nat.le_of_ble_eq_true rfl) rfl rfl rfl ?_
  refine gb_goto 55 d_X11_ask_126 (by decide) ?_
  refine gb_pick (lv' := [(0, .ref 77), (1, .int y1), (2, .int y2), (3, .int y3), (4, .int y4), (5, .int (y5 + 1))]) [1, 2, 3, 4, 5, 0] rfl ?_
  exact hK55 _ y1 y2 y3 y4 (y5 + 1) h
set_option maxRecDepth 100000 in
set_option maxHeartbeats 4000000 in
theorem t_X11_ask_115 {Γ : gb_X} {sh : List gb_Sh} {out : gb_G × Int32} (hS : gb_S sh) {K85 : gb_G → Int32 → Int32 → Int32 → Int32 → Int32 → Int32 → Option (gb_G × Int32)} (hK85 : ∀ (g : gb_G) (y1 : Int32) (y2 : Int32) (y3 : Int32) (y4 : Int32) (y5 : Int32) (y6 : Int32), K85 g y1 y2 y3 y4 y5 y6 = some out → gb_J Γ M_X11_ask 7 (gb_Ri sh out) 0 0 sh g 85 [(0, .ref 77), (1, .int y1), (2, .int y2), (3, .int y3), (4, .int y4), (5, .int y5), (6, .int y6)] []) : ∀ (g : gb_G) (y1 : Int32) (y2 : Int32) (y3 : Int32) (y4 : Int32) (y5 : Int32) (y6 : Int32) (z0 : Int32) (z1 : Int32) (z2 : Int32), f_X11_ask_115 sh K85 g y1 y2 y3 y4 y5 y6 z0 z1 z2 = some out → gb_J Γ M_X11_ask 7 (gb_Ri sh out) 0 0 sh g 115 [(0, .ref 77), (1, .int y1), (2, .int y2), (3, .int y3), (4, .int y4), (5, .int y5), (6, .int y6)] [.int z0, .int z1, .int z2, .ref 100] := by
  intro g y1 y2 y3 y4 y5 y6 z0 z1 z2 h
  unfold f_X11_ask_115 at h
  refine gb_iadd d_X11_ask_115 ?_
  obtain ⟨hi15, h⟩ := gb_ck_e h
  refine gb_iast_ z2.toNatClampNeg rfl (hS 100 _ rfl) hi15 d_X11_ask_116 ?_
  have h := gb_let_e h
  generalize gb_pi g 100 z2.toNatClampNeg (z1 + z0) = g16 at h ⊢
  refine gb_iinc (y6 + 1) [(6, .int (y6 + 1)), (0, .ref 77), (1, .int y1), (2, .int y2), (3, .int y3), (4, .int y4), (5, .int y5)] d_X11_ask_117 (Nat.le_of_ble_eq_true rfl) rfl rfl rfl ?_
  refine gb_goto 85 d_X11_ask_120 (by decide) ?_
  refine gb_pick (lv' := [(0, .ref 77), (1, .int y1), (2, .int y2), (3, .int y3), (4, .int y4), (5, .int y5), (6, .int (y6 + 1))]) [1, 2, 3, 4, 5, 6, 0] rfl ?_
  exact hK85 _ y1 y2 y3 y4 y5 (y6 + 1) h
set_option maxRecDepth 100000 in
set_option maxHeartbeats 4000000 in
theorem t_X11_ask_85 {Γ : gb_X} {sh : List gb_Sh} {out : gb_G × Int32} (hS : gb_S sh) {K123 : gb_G → Int32 → Int32 → Int32 → Int32 → Int32 → Option (gb_G × Int32)} (hK123 : ∀ (g : gb_G) (y1 : Int32) (y2 : Int32) (y3 : Int32) (y4 : Int32) (y5 : Int32), K123 g y1 y2 y3 y4 y5 = some out → gb_J Γ M_X11_ask 7 (gb_Ri sh out) 0 0 sh g 123 [(0, .ref 77), (1, .int y1), (2, .int y2), (3, .int y3), (4, .int y4), (5, .int y5)] []) : ∀ (n : Nat) (g : gb_G) (y1 : Int32) (y2 : Int32) (y3 : Int32) (y4 : Int32) (y5 : Int32) (y6 : Int32), f_X11_ask_85 sh K123 n g y1 y2 y3 y4 y5 y6 = some out → gb_J Γ M_X11_ask 7 (gb_Ri sh out) 0 0 sh g 85 [(0, .ref 77), (1, .int y1), (2, .int y2), (3, .int y3), (4, .int y4), (5, .int y5), (6, .int y6)] [] := by
  intro n
  induction n with
  | zero => intro g y1 y2 y3 y4 y5 y6 h; cases h
  | succ n ih =>
    intro g y1 y2 y3 y4 y5 y6 h
    rw [f_X11_ask_85] at h
    refine gb_iload d_X11_ask_85 rfl ?_
    refine gb_bipush 8 d_X11_ask_87 rfl ?_
    refine gb_icmp_ge 123 d_X11_ask_89 (by decide) (fun hc => ?_) (fun hc => ?_)
    · have h := gb_it hc h
      refine gb_pick (lv' := [(0, .ref 77), (1, .int y1), (2, .int y2), (3, .int y3), (4, .int y4), (5, .int y5)]) [0, 1, 2, 3, 4, 5] rfl ?_
      exact hK123 _ y1 y2 y3 y4 y5 h
    · have h := gb_if hc h
      refine gb_aload_n d_X11_ask_92 rfl ?_
      refine gb_getr (r := 100) f_X11_116 (hS 77 _ rfl) rfl d_X11_ask_93 ?_
      refine gb_iload d_X11_ask_96 rfl ?_
      refine gb_dup2 d_X11_ask_98 rfl rfl ?_
      obtain ⟨hi12, h⟩ := gb_ck_e h
      refine gb_iald_ y6.toNatClampNeg rfl (hS 100 _ rfl) hi12 d_X11_ask_99 ?_
      refine gb_iload d_X11_ask_100 rfl ?_
      refine gb_iload d_X11_ask_102 rfl ?_
      obtain ⟨r13, e14, h⟩ := gb_bd_e h
      refine gb_cSi (As := [.int y5, .int y6]) (rest := [.int (g.1 100 y6.toNatClampNeg), .int y6, .ref 100]) m_X11_469 (t_X11_is (Γ := Γ) hS e14) (Nat.le_of_ble_eq_true rfl) rfl rfl (Nat.le_of_ble_eq_true rfl) d_X11_ask_104 ?_
      refine gb_if_eq 114 d_X11_ask_107 (by decide) (fun hc => ?_) (fun hc => ?_)
      · have h := gb_it hc h
        refine gb_iconst 0 d_X11_ask_114 rfl ?_
        exact t_X11_ask_115 hS (fun w w0 w1 w2 w3 w4 w5 hw => ih w w0 w1 w2 w3 w4 w5 hw) _ y1 y2 y3 y4 y5 y6 0 (g.1 100 y6.toNatClampNeg) y6 h
      · have h := gb_if hc h
        refine gb_iconst 1 d_X11_ask_110 rfl ?_
        refine gb_goto 115 d_X11_ask_111 (by decide) ?_
        exact t_X11_ask_115 hS (fun w w0 w1 w2 w3 w4 w5 hw => ih w w0 w1 w2 w3 w4 w5 hw) _ y1 y2 y3 y4 y5 y6 1 (g.1 100 y6.toNatClampNeg) y6 h
set_option maxRecDepth 100000 in
set_option maxHeartbeats 4000000 in
theorem t_X11_ask_55 {Γ : gb_X} {sh : List gb_Sh} {out : gb_G × Int32} (hS : gb_S sh) : ∀ (n : Nat) (g : gb_G) (y1 : Int32) (y2 : Int32) (y3 : Int32) (y4 : Int32) (y5 : Int32), f_X11_ask_55 sh n g y1 y2 y3 y4 y5 = some out → gb_J Γ M_X11_ask 7 (gb_Ri sh out) 0 0 sh g 55 [(0, .ref 77), (1, .int y1), (2, .int y2), (3, .int y3), (4, .int y4), (5, .int y5)] [] := by
  intro n
  induction n with
  | zero => intro g y1 y2 y3 y4 y5 h; cases h
  | succ n ih =>
    intro g y1 y2 y3 y4 y5 h
    rw [f_X11_ask_55] at h
    refine gb_iload d_X11_ask_55 rfl ?_
    refine gb_iconst 1 d_X11_ask_57 rfl ?_
    refine gb_aload_n d_X11_ask_58 rfl ?_
    refine gb_getr (r := 79) f_X11_13 (hS 77 _ rfl) rfl d_X11_ask_59 ?_
    refine gb_iconst 0 d_X11_ask_62 rfl ?_
    refine gb_iald_ 0 rfl (hS 79 _ rfl) (by unfold vp_in; decide) d_X11_ask_63 ?_
    refine gb_ishl d_X11_ask_64 ?_
    refine gb_icmp_ge 129 d_X11_ask_65 (by decide) (fun hc => ?_) (fun hc => ?_)
    · have h := gb_it hc h
      refine gb_ldcw 100000000 k_X11_461 d_X11_ask_129 ?_
      refine gb_istore [(5, .int 100000000), (0, .ref 77), (1, .int y1), (2, .int y2), (3, .int y3), (4, .int y4)] d_X11_ask_132 (Nat.le_of_ble_eq_true rfl) rfl ?_
      refine gb_iconst (-1) d_X11_ask_134 rfl ?_
      refine gb_istore [(6, .int (-1)), (5, .int 100000000), (0, .ref 77), (1, .int y1), (2, .int y2), (3, .int y3), (4, .int y4)] d_X11_ask_135 (Nat.le_of_ble_eq_true rfl) rfl ?_
      refine gb_iconst 0 d_X11_ask_137 rfl ?_
      refine gb_istore [(7, .int 0), (6, .int (-1)), (5, .int 100000000), (0, .ref 77), (1, .int y1), (2, .int y2), (3, .int y3), (4, .int y4)] d_X11_ask_138 (Nat.le_of_ble_eq_true rfl) rfl ?_
      refine gb_pick (lv' := [(0, .ref 77), (3, .int y3), (4, .int y4), (5, .int 100000000), (6, .int (-1)), (7, .int 0)]) [3, 6, 7, 2, 1, 0] rfl ?_
      exact t_X11_ask_140 hS  gb_N _ y3 y4 100000000 (-1) 0 h
    · have h := gb_if hc h
      refine gb_aload_n d_X11_ask_68 rfl ?_
      refine gb_iload d_X11_ask_69 rfl ?_
      refine gb_iload_n d_X11_ask_71 rfl ?_
      refine gb_iload_n d_X11_ask_72 rfl ?_
      obtain ⟨r10, e11, h⟩ := gb_bd_e h
      refine gb_cVi (As := [.int y5, .int y1, .int y2]) (rest := []) m_X11_488 (t_X11_isBought (Γ := Γ) hS e11) (hS 77 _ rfl) rfl (Nat.le_of_ble_eq_true rfl) rfl rfl (Nat.le_of_ble_eq_true rfl) d_X11_ask_73 ?_
      refine gb_if_eq 123 d_X11_ask_76 (by decide) (fun hc => ?_) (fun hc => ?_)
      · have h := gb_it hc h
        exact t_X11_ask_123 hS (fun w w0 w1 w2 w3 w4 hw => ih w w0 w1 w2 w3 w4 hw) _ y1 y2 y3 y4 y5 h
      · have h := gb_if hc h
        refine gb_iinc (y4 + 1) [(4, .int (y4 + 1)), (0, .ref 77), (1, .int y1), (2, .int y2), (3, .int y3), (5, .int y5)] d_X11_ask_79 (Nat.le_of_ble_eq_true rfl) rfl rfl rfl ?_
        refine gb_iconst 0 d_X11_ask_82 rfl ?_
        refine gb_istore [(6, .int 0), (4, .int (y4 + 1)), (0, .ref 77), (1, .int y1), (2, .int y2), (3, .int y3), (5, .int y5)] d_X11_ask_83 (Nat.le_of_ble_eq_true rfl) rfl ?_
        refine gb_pick (lv' := [(0, .ref 77), (1, .int y1), (2, .int y2), (3, .int y3), (4, .int (y4 + 1)), (5, .int y5), (6, .int 0)]) [2, 3, 4, 5, 1, 6, 0] rfl ?_
        exact t_X11_ask_85 hS (fun w w0 w1 w2 w3 w4 hw => t_X11_ask_123 hS (fun w w0 w1 w2 w3 w4 hw => ih w w0 w1 w2 w3 w4 hw) w w0 w1 w2 w3 w4 hw) gb_N _ y1 y2 y3 (y4 + 1) y5 0 h
set_option maxRecDepth 100000 in
set_option maxHeartbeats 4000000 in
theorem t_X11_ask_28 {Γ : gb_X} {sh : List gb_Sh} {out : gb_G × Int32} (hS : gb_S sh) : ∀ (n : Nat) (g : gb_G) (y1 : Int32) (y2 : Int32) (y3 : Int32) (y4 : Int32), f_X11_ask_28 sh n g y1 y2 y3 y4 = some out → gb_J Γ M_X11_ask 7 (gb_Ri sh out) 0 0 sh g 28 [(0, .ref 77), (1, .int y1), (2, .int y2), (3, .int y3), (4, .int y4)] [] := by
  intro n
  induction n with
  | zero => intro g y1 y2 y3 y4 h; cases h
  | succ n ih =>
    intro g y1 y2 y3 y4 h
    rw [f_X11_ask_28] at h
    refine gb_iload d_X11_ask_28 rfl ?_
    refine gb_bipush 8 d_X11_ask_30 rfl ?_
    refine gb_icmp_ge 49 d_X11_ask_32 (by decide) (fun hc => ?_) (fun hc => ?_)
    · have h := gb_it hc h
      refine gb_iconst 0 d_X11_ask_49 rfl ?_
      refine gb_istore [(4, .int 0), (0, .ref 77), (1, .int y1), (2, .int y2), (3, .int y3)] d_X11_ask_50 (Nat.le_of_ble_eq_true rfl) rfl ?_
      refine gb_iconst 0 d_X11_ask_52 rfl ?_
      refine gb_istore [(5, .int 0), (4, .int 0), (0, .ref 77), (1, .int y1), (2, .int y2), (3, .int y3)] d_X11_ask_53 (Nat.le_of_ble_eq_true rfl) rfl ?_
      refine gb_pick (lv' := [(0, .ref 77), (1, .int y1), (2, .int y2), (3, .int y3), (4, .int 0), (5, .int 0)]) [2, 3, 4, 5, 1, 0] rfl ?_
      exact t_X11_ask_55 hS  gb_N _ y1 y2 y3 0 0 h
    · have h := gb_if hc h
      refine gb_aload_n d_X11_ask_35 rfl ?_
      refine gb_getr (r := 100) f_X11_116 (hS 77 _ rfl) rfl d_X11_ask_36 ?_
      refine gb_iload d_X11_ask_39 rfl ?_
      refine gb_iconst 0 d_X11_ask_41 rfl ?_
      obtain ⟨hi17, h⟩ := gb_ck_e h
      refine gb_iast_ y4.toNatClampNeg rfl (hS 100 _ rfl) hi17 d_X11_ask_42 ?_
      have h := gb_let_e h
      generalize gb_pi g 100 y4.toNatClampNeg 0 = g18 at h ⊢
      refine gb_iinc (y4 + 1) [(4, .int (y4 + 1)), (0, .ref 77), (1, .int y1), (2, .int y2), (3, .int y3)] d_X11_ask_43 (Nat.le_of_ble_eq_true rfl) rfl rfl rfl ?_
      refine gb_goto 28 d_X11_ask_46 (by decide) ?_
      refine gb_pick (lv' := [(0, .ref 77), (1, .int y1), (2, .int y2), (3, .int y3), (4, .int (y4 + 1))]) [1, 2, 3, 4, 0] rfl ?_
      exact ih _ y1 y2 y3 (y4 + 1) h
set_option maxRecDepth 100000 in
set_option maxHeartbeats 4000000 in
theorem t_X11_ask {Γ : gb_X} {sh : List gb_Sh} {x1 : Int32} {x2 : Int32} {x3 : Int32} {out : gb_G × Int32} (hS : gb_S sh) {g : gb_G} (h : f_X11_ask sh g x1 x2 x3 = some out) : gb_C Γ M_X11_ask 7 0 0 sh g [.ref 77, .int x1, .int x2, .int x3] (gb_Ri sh out) := by
  refine gb_C.of rfl (Nat.le_of_ble_eq_true rfl) ?_
  refine gb_pick (lv' := [(0, .ref 77), (1, .int x1), (2, .int x2), (3, .int x3)]) [0, 1, 2, 3] rfl ?_
  unfold f_X11_ask at h
  refine gb_aload_n d_X11_ask_0 rfl ?_
  refine gb_iconst 0 d_X11_ask_1 rfl ?_
  refine gb_puti f_X11_145 (fun h => nomatch h) (hS 77 _ rfl) rfl rfl rfl d_X11_ask_2 ?_
  have h := gb_let_e h
  generalize gb_pi g 77 0 0 = g1 at h ⊢
  refine gb_iload_n d_X11_ask_5 rfl ?_
  refine gb_iload_n d_X11_ask_6 rfl ?_
  obtain ⟨r2, e3, h⟩ := gb_bd_e h
  refine gb_cSi (As := [.int x1, .int x2]) (rest := []) m_X11_485 (t_X11_areSpent (Γ := Γ) hS e3) (Nat.le_of_ble_eq_true rfl) rfl rfl (Nat.le_of_ble_eq_true rfl) d_X11_ask_7 ?_
  refine gb_if_eq 23 d_X11_ask_10 (by decide) (fun hc => ?_) (fun hc => ?_)
  · have h := gb_it hc h
    refine gb_iconst (-1) d_X11_ask_23 rfl ?_
    cases h
    exact gb_iret d_X11_ask_24 rfl ⟨rfl, rfl, rfl⟩
  · have h := gb_if hc h
    refine gb_iload_n d_X11_ask_13 rfl ?_
    refine gb_i2l d_X11_ask_14 ?_
    refine gb_lconst 0 d_X11_ask_15 rfl ?_
    refine gb_lconst 1 d_X11_ask_16 rfl ?_
    obtain ⟨r4, e5, h⟩ := gb_bd_e h
    refine gb_cSi (As := [.long x3.toInt64, .long 0, .long 1]) (rest := []) m_X11_165 (t_X11_in (Γ := Γ) hS e5) (Nat.le_of_ble_eq_true rfl) rfl rfl (Nat.le_of_ble_eq_true rfl) d_X11_ask_17 ?_
    refine gb_if_ne 25 d_X11_ask_20 (by decide) (fun hc => ?_) (fun hc => ?_)
    · have h := gb_if hc h
      refine gb_iconst 0 d_X11_ask_25 rfl ?_
      refine gb_istore [(4, .int 0), (0, .ref 77), (1, .int x1), (2, .int x2), (3, .int x3)] d_X11_ask_26 (Nat.le_of_ble_eq_true rfl) rfl ?_
      refine gb_pick (lv' := [(0, .ref 77), (1, .int x1), (2, .int x2), (3, .int x3), (4, .int 0)]) [1, 2, 3, 4, 0] rfl ?_
      exact t_X11_ask_28 hS  gb_N _ x1 x2 x3 0 h
    · have h := gb_it hc h
      refine gb_iconst (-1) d_X11_ask_23 rfl ?_
      cases h
      exact gb_iret d_X11_ask_24 rfl ⟨rfl, rfl, rfl⟩
-- X11_fair
noncomputable def f_X11_fair_130 (sh : List gb_Sh) (K35 : gb_G → Int32 → Int32 → Int32 → Int32 → Int32 → Option (gb_G × Int32)) (g : gb_G) (y1 : Int32) (y2 : Int32) (y4 : Int32) (y5 : Int32) (z0 : Int32) : Option (gb_G × Int32) := K35 g y1 y2 z0 y4 (y5 + 1)
noncomputable def f_X11_fair_116 (sh : List gb_Sh) (K35 : gb_G → Int32 → Int32 → Int32 → Int32 → Int32 → Option (gb_G × Int32)) (g : gb_G) (y1 : Int32) (y2 : Int32) (y3 : Int32) (y5 : Int32) (y6 : Int32) (z0 : Int32) : Option (gb_G × Int32) := if y3 ≤ y6 then (f_X11_fair_130 sh K35 g y1 y2 z0 y5 y3) else (f_X11_fair_130 sh K35 g y1 y2 z0 y5 y6)
noncomputable def f_X11_fair_94 (sh : List gb_Sh) (K48 : gb_G → Int32 → Int32 → Int32 → Int32 → Int32 → Int32 → Int32 → Option (gb_G × Int32)) (g : gb_G) (y1 : Int32) (y2 : Int32) (y3 : Int32) (y4 : Int32) (y5 : Int32) (y7 : Int32) (z0 : Int32) (z1 : Int32) : Option (gb_G × Int32) := K48 g y1 y2 y3 y4 y5 (z1 + z0) (y7 + 1)
noncomputable def f_X11_fair_48 (sh : List gb_Sh) (K35 : gb_G → Int32 → Int32 → Int32 → Int32 → Int32 → Option (gb_G × Int32)) : Nat → gb_G → Int32 → Int32 → Int32 → Int32 → Int32 → Int32 → Int32 → Option (gb_G × Int32)
  | 0, _, _, _, _, _, _, _, _ => none
  | n + 1, g, y1, y2, y3, y4, y5, y6, y7 => if (g.1 79 1) ≤ y7 then (if y3 ≤ y6 then (f_X11_fair_116 sh K35 g y1 y2 y3 y5 y6 y4) else (f_X11_fair_116 sh K35 g y1 y2 y3 y5 y6 y5)) else (gb_ck ((64 + (8 * y7)) + y1) 5520 (if 0 ≤ ((g.1 79 (((64 + (8 * y7)) + y1).toNatClampNeg)) - y5) then (f_X11_fair_94 sh (fun w w0 w1 w2 w3 w4 w5 w6 => f_X11_fair_48 sh K35 n w w0 w1 w2 w3 w4 w5 w6) g y1 y2 y3 y4 y5 y7 ((g.1 79 (((64 + (8 * y7)) + y1).toNatClampNeg)) - y5) y6) else (f_X11_fair_94 sh (fun w w0 w1 w2 w3 w4 w5 w6 => f_X11_fair_48 sh K35 n w w0 w1 w2 w3 w4 w5 w6) g y1 y2 y3 y4 y5 y7 (-((g.1 79 (((64 + (8 * y7)) + y1).toNatClampNeg)) - y5)) y6)))
noncomputable def f_X11_fair_35 (sh : List gb_Sh) : Nat → gb_G → Int32 → Int32 → Int32 → Int32 → Int32 → Option (gb_G × Int32)
  | 0, _, _, _, _, _, _ => none
  | n + 1, g, y1, y2, y3, y4, y5 => if 10 ≤ y5 then (if y2 = 0 then (some (g, y4)) else (some (g, y3))) else (f_X11_fair_48 sh (fun w w0 w1 w2 w3 w4 => f_X11_fair_35 sh n w w0 w1 w2 w3 w4) gb_N g y1 y2 y3 y4 y5 0 0)
noncomputable def f_X11_fair (sh : List gb_Sh) (g : gb_G) (x1 : Int32) (x2 : Int32) : Option (gb_G × Int32) := gb_let (gb_pi g 77 0 0) (fun g1 => gb_bd (f_X11_isGood sh g1 x1) (fun r2 => if r2.2 = 0 then (some (r2.1, (-1))) else (gb_bd (f_X11_in sh r2.1 x2.toInt64 0 1) (fun r4 => if r4.2 = 0 then (some (r4.1, (-1))) else (f_X11_fair_35 sh gb_N r4.1 x1 x2 100000000 (-1) 0)))))
set_option maxRecDepth 100000 in
set_option maxHeartbeats 4000000 in
theorem t_X11_fair_130 {Γ : gb_X} {sh : List gb_Sh} {out : gb_G × Int32} (hS : gb_S sh) {K35 : gb_G → Int32 → Int32 → Int32 → Int32 → Int32 → Option (gb_G × Int32)} (hK35 : ∀ (g : gb_G) (y1 : Int32) (y2 : Int32) (y3 : Int32) (y4 : Int32) (y5 : Int32), K35 g y1 y2 y3 y4 y5 = some out → gb_J Γ M_X11_fair 2 (gb_Ri sh out) 0 0 sh g 35 [(0, .ref 77), (1, .int y1), (2, .int y2), (3, .int y3), (4, .int y4), (5, .int y5)] []) : ∀ (g : gb_G) (y1 : Int32) (y2 : Int32) (y4 : Int32) (y5 : Int32) (z0 : Int32), f_X11_fair_130 sh K35 g y1 y2 y4 y5 z0 = some out → gb_J Γ M_X11_fair 2 (gb_Ri sh out) 0 0 sh g 130 [(0, .ref 77), (1, .int y1), (2, .int y2), (4, .int y4), (5, .int y5)] [.int z0] := by
  intro g y1 y2 y4 y5 z0 h
  unfold f_X11_fair_130 at h
  refine gb_istore_n [(3, .int z0), (0, .ref 77), (1, .int y1), (2, .int y2), (4, .int y4), (5, .int y5)] d_X11_fair_130 (Nat.le_of_ble_eq_true rfl) rfl ?_
  refine gb_iinc (y5 + 1) [(5, .int (y5 + 1)), (3, .int z0), (0, .ref 77), (1, .int y1), (2, .int y2), (4, .int y4)] d_X11_fair_131 (Nat.le_of_ble_eq_true rfl) rfl rfl rfl ?_
  refine gb_goto 35 d_X11_fair_134 (by decide) ?_
  refine gb_pick (lv' := [(0, .ref 77), (1, .int y1), (2, .int y2), (3, .int z0), (4, .int y4), (5, .int (y5 + 1))]) [2, 3, 4, 1, 5, 0] rfl ?_
  exact hK35 _ y1 y2 z0 y4 (y5 + 1) h
set_option maxRecDepth 100000 in
set_option maxHeartbeats 4000000 in
theorem t_X11_fair_116 {Γ : gb_X} {sh : List gb_Sh} {out : gb_G × Int32} (hS : gb_S sh) {K35 : gb_G → Int32 → Int32 → Int32 → Int32 → Int32 → Option (gb_G × Int32)} (hK35 : ∀ (g : gb_G) (y1 : Int32) (y2 : Int32) (y3 : Int32) (y4 : Int32) (y5 : Int32), K35 g y1 y2 y3 y4 y5 = some out → gb_J Γ M_X11_fair 2 (gb_Ri sh out) 0 0 sh g 35 [(0, .ref 77), (1, .int y1), (2, .int y2), (3, .int y3), (4, .int y4), (5, .int y5)] []) : ∀ (g : gb_G) (y1 : Int32) (y2 : Int32) (y3 : Int32) (y5 : Int32) (y6 : Int32) (z0 : Int32), f_X11_fair_116 sh K35 g y1 y2 y3 y5 y6 z0 = some out → gb_J Γ M_X11_fair 2 (gb_Ri sh out) 0 0 sh g 116 [(0, .ref 77), (1, .int y1), (2, .int y2), (3, .int y3), (5, .int y5), (6, .int y6)] [.int z0] := by
  intro g y1 y2 y3 y5 y6 z0 h
  unfold f_X11_fair_116 at h
  refine gb_istore [(4, .int z0), (0, .ref 77), (1, .int y1), (2, .int y2), (3, .int y3), (5, .int y5), (6, .int y6)] d_X11_fair_116 (Nat.le_of_ble_eq_true rfl) rfl ?_
  refine gb_iload d_X11_fair_118 rfl ?_
  refine gb_iload_n d_X11_fair_120 rfl ?_
  refine gb_icmp_ge 129 d_X11_fair_121 (by decide) (fun hc => ?_) (fun hc => ?_)
  · have h := gb_it hc h
    refine gb_iload_n d_X11_fair_129 rfl ?_
    refine gb_pick (lv' := [(0, .ref 77), (1, .int y1), (2, .int y2), (4, .int z0), (5, .int y5)]) [1, 2, 3, 0, 5] rfl ?_
    exact t_X11_fair_130 hS hK35 _ y1 y2 z0 y5 y3 h
  · have h := gb_if hc h
    refine gb_iload d_X11_fair_124 rfl ?_
    refine gb_goto 130 d_X11_fair_126 (by decide) ?_
    refine gb_pick (lv' := [(0, .ref 77), (1, .int y1), (2, .int y2), (4, .int z0), (5, .int y5)]) [1, 2, 3, 0, 5] rfl ?_
    exact t_X11_fair_130 hS hK35 _ y1 y2 z0 y5 y6 h
set_option maxRecDepth 100000 in
set_option maxHeartbeats 4000000 in
theorem t_X11_fair_94 {Γ : gb_X} {sh : List gb_Sh} {out : gb_G × Int32} (hS : gb_S sh) {K48 : gb_G → Int32 → Int32 → Int32 → Int32 → Int32 → Int32 → Int32 → Option (gb_G × Int32)} (hK48 : ∀ (g : gb_G) (y1 : Int32) (y2 : Int32) (y3 : Int32) (y4 : Int32) (y5 : Int32) (y6 : Int32) (y7 : Int32), K48 g y1 y2 y3 y4 y5 y6 y7 = some out → gb_J Γ M_X11_fair 2 (gb_Ri sh out) 0 0 sh g 48 [(0, .ref 77), (1, .int y1), (2, .int y2), (3, .int y3), (4, .int y4), (5, .int y5), (6, .int y6), (7, .int y7)] []) : ∀ (g : gb_G) (y1 : Int32) (y2 : Int32) (y3 : Int32) (y4 : Int32) (y5 : Int32) (y7 : Int32) (z0 : Int32) (z1 : Int32), f_X11_fair_94 sh K48 g y1 y2 y3 y4 y5 y7 z0 z1 = some out → gb_J Γ M_X11_fair 2 (gb_Ri sh out) 0 0 sh g 94 [(0, .ref 77), (1, .int y1), (2, .int y2), (3, .int y3), (4, .int y4), (5, .int y5), (7, .int y7)] [.int z0, .int z1] := by
  intro g y1 y2 y3 y4 y5 y7 z0 z1 h
  unfold f_X11_fair_94 at h
  refine gb_iadd d_X11_fair_94 ?_
  refine gb_istore [(6, .int (z1 + z0)), (0, .ref 77), (1, .int y1), (2, .int y2), (3, .int y3), (4, .int y4), (5, .int y5), (7, .int y7)] d_X11_fair_95 (Nat.le_of_ble_eq_true rfl) rfl ?_
  refine gb_iinc (y7 + 1) [(7, .int (y7 + 1)), (6, .int (z1 + z0)), (0, .ref 77), (1, .int y1), (2, .int y2), (3, .int y3), (4, .int y4), (5, .int y5)] d_X11_fair_97 (Nat.le_of_ble_eq_true rfl) rfl rfl rfl ?_
  refine gb_goto 48 d_X11_fair_100 (by decide) ?_
  refine gb_pick (lv' := [(0, .ref 77), (1, .int y1), (2, .int y2), (3, .int y3), (4, .int y4), (5, .int y5), (6, .int (z1 + z0)), (7, .int (y7 + 1))]) [2, 3, 4, 5, 6, 7, 1, 0] rfl ?_
  exact hK48 _ y1 y2 y3 y4 y5 (z1 + z0) (y7 + 1) h
set_option maxRecDepth 100000 in
set_option maxHeartbeats 4000000 in
theorem t_X11_fair_48 {Γ : gb_X} {sh : List gb_Sh} {out : gb_G × Int32} (hS : gb_S sh) {K35 : gb_G → Int32 → Int32 → Int32 → Int32 → Int32 → Option (gb_G × Int32)} (hK35 : ∀ (g : gb_G) (y1 : Int32) (y2 : Int32) (y3 : Int32) (y4 : Int32) (y5 : Int32), K35 g y1 y2 y3 y4 y5 = some out → gb_J Γ M_X11_fair 2 (gb_Ri sh out) 0 0 sh g 35 [(0, .ref 77), (1, .int y1), (2, .int y2), (3, .int y3), (4, .int y4), (5, .int y5)] []) : ∀ (n : Nat) (g : gb_G) (y1 : Int32) (y2 : Int32) (y3 : Int32) (y4 : Int32) (y5 : Int32) (y6 : Int32) (y7 : Int32), f_X11_fair_48 sh K35 n g y1 y2 y3 y4 y5 y6 y7 = some out → gb_J Γ M_X11_fair 2 (gb_Ri sh out) 0 0 sh g 48 [(0, .ref 77), (1, .int y1), (2, .int y2), (3, .int y3), (4, .int y4), (5, .int y5), (6, .int y6), (7, .int y7)] [] := by
  intro n
  induction n with
  | zero => intro g y1 y2 y3 y4 y5 y6 y7 h; cases h
  | succ n ih =>
    intro g y1 y2 y3 y4 y5 y6 y7 h
    rw [f_X11_fair_48] at h
    refine gb_iload d_X11_fair_48 rfl ?_
    refine gb_aload_n d_X11_fair_50 rfl ?_
    refine gb_getr (r := 79) f_X11_13 (hS 77 _ rfl) rfl d_X11_fair_51 ?_
    refine gb_iconst 1 d_X11_fair_54 rfl ?_
    refine gb_iald_ 1 rfl (hS 79 _ rfl) (by unfold vp_in; decide) d_X11_fair_55 ?_
    refine gb_icmp_ge 103 d_X11_fair_56 (by decide) (fun hc => ?_) (fun hc => ?_)
    · have h := gb_it hc h
      refine gb_iload d_X11_fair_103 rfl ?_
      refine gb_iload_n d_X11_fair_105 rfl ?_
      refine gb_icmp_ge 114 d_X11_fair_106 (by decide) (fun hc => ?_) (fun hc => ?_)
      · have h := gb_it hc h
        refine gb_iload d_X11_fair_114 rfl ?_
        refine gb_pick (lv' := [(0, .ref 77), (1, .int y1), (2, .int y2), (3, .int y3), (5, .int y5), (6, .int y6)]) [0, 1, 2, 3, 5, 6] rfl ?_
        exact t_X11_fair_116 hS hK35 _ y1 y2 y3 y5 y6 y4 h
      · have h := gb_if hc h
        refine gb_iload d_X11_fair_109 rfl ?_
        refine gb_goto 116 d_X11_fair_111 (by decide) ?_
        refine gb_pick (lv' := [(0, .ref 77), (1, .int y1), (2, .int y2), (3, .int y3), (5, .int y5), (6, .int y6)]) [0, 1, 2, 3, 5, 6] rfl ?_
        exact t_X11_fair_116 hS hK35 _ y1 y2 y3 y5 y6 y5 h
    · have h := gb_if hc h
      refine gb_aload_n d_X11_fair_59 rfl ?_
      refine gb_getr (r := 79) f_X11_13 (hS 77 _ rfl) rfl d_X11_fair_60 ?_
      refine gb_bipush 64 d_X11_fair_63 rfl ?_
      refine gb_bipush 8 d_X11_fair_65 rfl ?_
      refine gb_iload d_X11_fair_67 rfl ?_
      refine gb_imul d_X11_fair_69 ?_
      refine gb_iadd d_X11_fair_70 ?_
      refine gb_iload_n d_X11_fair_71 rfl ?_
      refine gb_iadd d_X11_fair_72 ?_
      obtain ⟨hi6, h⟩ := gb_ck_e h
      refine gb_iald_ (((64 + (8 * y7)) + y1).toNatClampNeg) rfl (hS 79 _ rfl) hi6 d_X11_fair_73 ?_
      refine gb_iload d_X11_fair_74 rfl ?_
      refine gb_isub d_X11_fair_76 ?_
      refine gb_istore [(8, .int ((g.1 79 (((64 + (8 * y7)) + y1).toNatClampNeg)) - y5)), (0, .ref 77), (1, .int y1), (2, .int y2), (3, .int y3), (4, .int y4), (5, .int y5), (6, .int y6), (7, .int y7)] d_X11_fair_77 (Nat.le_of_ble_eq_true rfl) rfl ?_
      refine gb_iload d_X11_fair_79 rfl ?_
      refine gb_iload d_X11_fair_81 rfl ?_
      refine gb_if_ge 92 d_X11_fair_83 (by decide) (fun hc => ?_) (fun hc => ?_)
      · have h := gb_it hc h
        refine gb_iload d_X11_fair_92 rfl ?_
        refine gb_pick (lv' := [(0, .ref 77), (1, .int y1), (2, .int y2), (3, .int y3), (4, .int y4), (5, .int y5), (7, .int y7)]) [1, 2, 3, 4, 5, 6, 8] rfl ?_
        exact t_X11_fair_94 hS (fun w w0 w1 w2 w3 w4 w5 w6 hw => ih w w0 w1 w2 w3 w4 w5 w6 hw) _ y1 y2 y3 y4 y5 y7 ((g.1 79 (((64 + (8 * y7)) + y1).toNatClampNeg)) - y5) y6 h
      · have h := gb_if hc h
        refine gb_iload d_X11_fair_86 rfl ?_
        refine gb_ineg d_X11_fair_88 ?_
        refine gb_goto 94 d_X11_fair_89 (by decide) ?_
        refine gb_pick (lv' := [(0, .ref 77), (1, .int y1), (2, .int y2), (3, .int y3), (4, .int y4), (5, .int y5), (7, .int y7)]) [1, 2, 3, 4, 5, 6, 8] rfl ?_
        exact t_X11_fair_94 hS (fun w w0 w1 w2 w3 w4 w5 w6 hw => ih w w0 w1 w2 w3 w4 w5 w6 hw) _ y1 y2 y3 y4 y5 y7 (-((g.1 79 (((64 + (8 * y7)) + y1).toNatClampNeg)) - y5)) y6 h
set_option maxRecDepth 100000 in
set_option maxHeartbeats 4000000 in
theorem t_X11_fair_35 {Γ : gb_X} {sh : List gb_Sh} {out : gb_G × Int32} (hS : gb_S sh) : ∀ (n : Nat) (g : gb_G) (y1 : Int32) (y2 : Int32) (y3 : Int32) (y4 : Int32) (y5 : Int32), f_X11_fair_35 sh n g y1 y2 y3 y4 y5 = some out → gb_J Γ M_X11_fair 2 (gb_Ri sh out) 0 0 sh g 35 [(0, .ref 77), (1, .int y1), (2, .int y2), (3, .int y3), (4, .int y4), (5, .int y5)] [] := by
  intro n
  induction n with
  | zero => intro g y1 y2 y3 y4 y5 h; cases h
  | succ n ih =>
    intro g y1 y2 y3 y4 y5 h
    rw [f_X11_fair_35] at h
    refine gb_iload d_X11_fair_35 rfl ?_
    refine gb_bipush 10 d_X11_fair_37 rfl ?_
    refine gb_icmp_ge 137 d_X11_fair_39 (by decide) (fun hc => ?_) (fun hc => ?_)
    · have h := gb_it hc h
      refine gb_iload_n d_X11_fair_137 rfl ?_
      refine gb_if_ne 146 d_X11_fair_138 (by decide) (fun hc => ?_) (fun hc => ?_)
      · have h := gb_if hc h
        refine gb_iload_n d_X11_fair_146 rfl ?_
        cases h
        exact gb_iret d_X11_fair_147 rfl ⟨rfl, rfl, rfl⟩
      · have h := gb_it hc h
        refine gb_iload d_X11_fair_141 rfl ?_
        refine gb_goto 147 d_X11_fair_143 (by decide) ?_
        cases h
        exact gb_iret d_X11_fair_147 rfl ⟨rfl, rfl, rfl⟩
    · have h := gb_if hc h
      refine gb_iconst 0 d_X11_fair_42 rfl ?_
      refine gb_istore [(6, .int 0), (0, .ref 77), (1, .int y1), (2, .int y2), (3, .int y3), (4, .int y4), (5, .int y5)] d_X11_fair_43 (Nat.le_of_ble_eq_true rfl) rfl ?_
      refine gb_iconst 0 d_X11_fair_45 rfl ?_
      refine gb_istore [(7, .int 0), (6, .int 0), (0, .ref 77), (1, .int y1), (2, .int y2), (3, .int y3), (4, .int y4), (5, .int y5)] d_X11_fair_46 (Nat.le_of_ble_eq_true rfl) rfl ?_
      refine gb_pick (lv' := [(0, .ref 77), (1, .int y1), (2, .int y2), (3, .int y3), (4, .int y4), (5, .int y5), (6, .int 0), (7, .int 0)]) [2, 3, 4, 5, 6, 7, 1, 0] rfl ?_
      exact t_X11_fair_48 hS (fun w w0 w1 w2 w3 w4 hw => ih w w0 w1 w2 w3 w4 hw) gb_N _ y1 y2 y3 y4 y5 0 0 h
set_option maxRecDepth 100000 in
set_option maxHeartbeats 4000000 in
theorem t_X11_fair {Γ : gb_X} {sh : List gb_Sh} {x1 : Int32} {x2 : Int32} {out : gb_G × Int32} (hS : gb_S sh) {g : gb_G} (h : f_X11_fair sh g x1 x2 = some out) : gb_C Γ M_X11_fair 2 0 0 sh g [.ref 77, .int x1, .int x2] (gb_Ri sh out) := by
  refine gb_C.of rfl (Nat.le_of_ble_eq_true rfl) ?_
  refine gb_pick (lv' := [(0, .ref 77), (1, .int x1), (2, .int x2)]) [0, 1, 2] rfl ?_
  unfold f_X11_fair at h
  refine gb_aload_n d_X11_fair_0 rfl ?_
  refine gb_iconst 0 d_X11_fair_1 rfl ?_
  refine gb_puti f_X11_145 (fun h => nomatch h) (hS 77 _ rfl) rfl rfl rfl d_X11_fair_2 ?_
  have h := gb_let_e h
  generalize gb_pi g 77 0 0 = g1 at h ⊢
  refine gb_aload_n d_X11_fair_5 rfl ?_
  refine gb_iload_n d_X11_fair_6 rfl ?_
  obtain ⟨r2, e3, h⟩ := gb_bd_e h
  refine gb_cVi (As := [.int x1]) (rest := []) m_X11_184 (t_X11_isGood (Γ := Γ) hS e3) (hS 77 _ rfl) rfl (Nat.le_of_ble_eq_true rfl) rfl rfl (Nat.le_of_ble_eq_true rfl) d_X11_fair_7 ?_
  refine gb_if_eq 23 d_X11_fair_10 (by decide) (fun hc => ?_) (fun hc => ?_)
  · have h := gb_it hc h
    refine gb_iconst (-1) d_X11_fair_23 rfl ?_
    cases h
    exact gb_iret d_X11_fair_24 rfl ⟨rfl, rfl, rfl⟩
  · have h := gb_if hc h
    refine gb_iload_n d_X11_fair_13 rfl ?_
    refine gb_i2l d_X11_fair_14 ?_
    refine gb_lconst 0 d_X11_fair_15 rfl ?_
    refine gb_lconst 1 d_X11_fair_16 rfl ?_
    obtain ⟨r4, e5, h⟩ := gb_bd_e h
    refine gb_cSi (As := [.long x2.toInt64, .long 0, .long 1]) (rest := []) m_X11_165 (t_X11_in (Γ := Γ) hS e5) (Nat.le_of_ble_eq_true rfl) rfl rfl (Nat.le_of_ble_eq_true rfl) d_X11_fair_17 ?_
    refine gb_if_ne 25 d_X11_fair_20 (by decide) (fun hc => ?_) (fun hc => ?_)
    · have h := gb_if hc h
      refine gb_ldcw 100000000 k_X11_461 d_X11_fair_25 ?_
      refine gb_istore_n [(3, .int 100000000), (0, .ref 77), (1, .int x1), (2, .int x2)] d_X11_fair_28 (Nat.le_of_ble_eq_true rfl) rfl ?_
      refine gb_iconst (-1) d_X11_fair_29 rfl ?_
      refine gb_istore [(4, .int (-1)), (3, .int 100000000), (0, .ref 77), (1, .int x1), (2, .int x2)] d_X11_fair_30 (Nat.le_of_ble_eq_true rfl) rfl ?_
      refine gb_iconst 0 d_X11_fair_32 rfl ?_
      refine gb_istore [(5, .int 0), (4, .int (-1)), (3, .int 100000000), (0, .ref 77), (1, .int x1), (2, .int x2)] d_X11_fair_33 (Nat.le_of_ble_eq_true rfl) rfl ?_
      refine gb_pick (lv' := [(0, .ref 77), (1, .int x1), (2, .int x2), (3, .int 100000000), (4, .int (-1)), (5, .int 0)]) [3, 4, 5, 2, 1, 0] rfl ?_
      exact t_X11_fair_35 hS  gb_N _ x1 x2 100000000 (-1) 0 h
    · have h := gb_it hc h
      refine gb_iconst (-1) d_X11_fair_23 rfl ?_
      cases h
      exact gb_iret d_X11_fair_24 rfl ⟨rfl, rfl, rfl⟩
-- X11_hear
noncomputable def f_X11_hear (sh : List gb_Sh) (g : gb_G) (x1 : Int32) : Option (gb_G × Int32) := gb_let (gb_pi g 77 0 0) (fun g1 => gb_bd (f_X11_in sh g1 x1.toInt64 0 999) (fun r2 => if r2.2 = 0 then (gb_bd (f_X11_tell sh r2.1 (-1)) (fun r11 => some (r11.1, r11.2))) else (if (r2.1.1 79 2) = 12 then (gb_bd (f_X11_tell sh r2.1 (-5)) (fun r9 => some (r9.1, r9.2))) else (gb_ck (104 + (r2.1.1 79 2)) 5520 (gb_let (gb_pi r2.1 79 ((104 + (r2.1.1 79 2)).toNatClampNeg) x1) (fun g5 => gb_let (gb_pi g5 79 2 ((g5.1 79 2) + 1)) (fun g6 => gb_bd (f_X11_tell sh g6 ((r2.1.1 79 2) + 1)) (fun r7 => some (r7.1, r7.2)))))))))
set_option maxRecDepth 100000 in
set_option maxHeartbeats 4000000 in
theorem t_X11_hear {Γ : gb_X} {sh : List gb_Sh} {x1 : Int32} {out : gb_G × Int32} (hS : gb_S sh) {g : gb_G} (h : f_X11_hear sh g x1 = some out) : gb_C Γ M_X11_hear 1 0 0 sh g [.ref 77, .int x1] (gb_Ri sh out) := by
  refine gb_C.of rfl (Nat.le_of_ble_eq_true rfl) ?_
  refine gb_pick (lv' := [(0, .ref 77), (1, .int x1)]) [0, 1] rfl ?_
  unfold f_X11_hear at h
  refine gb_aload_n d_X11_hear_0 rfl ?_
  refine gb_iconst 0 d_X11_hear_1 rfl ?_
  refine gb_puti f_X11_145 (fun h => nomatch h) (hS 77 _ rfl) rfl rfl rfl d_X11_hear_2 ?_
  have h := gb_let_e h
  generalize gb_pi g 77 0 0 = g1 at h ⊢
  refine gb_iload_n d_X11_hear_5 rfl ?_
  refine gb_i2l d_X11_hear_6 ?_
  refine gb_lconst 0 d_X11_hear_7 rfl ?_
  refine gb_ldc2 999 k_X11_208 d_X11_hear_8 ?_
  obtain ⟨r2, e3, h⟩ := gb_bd_e h
  refine gb_cSi (As := [.long x1.toInt64, .long 0, .long 999]) (rest := []) m_X11_165 (t_X11_in (Γ := Γ) hS e3) (Nat.le_of_ble_eq_true rfl) rfl rfl (Nat.le_of_ble_eq_true rfl) d_X11_hear_11 ?_
  refine gb_if_ne 23 d_X11_hear_14 (by decide) (fun hc => ?_) (fun hc => ?_)
  · have h := gb_if hc h
    refine gb_aload_n d_X11_hear_23 rfl ?_
    refine gb_getr (r := 79) f_X11_13 (hS 77 _ rfl) rfl d_X11_hear_24 ?_
    refine gb_iconst 2 d_X11_hear_27 rfl ?_
    refine gb_iald_ 2 rfl (hS 79 _ rfl) (by unfold vp_in; decide) d_X11_hear_28 ?_
    refine gb_istore_n [(2, .int (r2.1.1 79 2)), (0, .ref 77), (1, .int x1)] d_X11_hear_29 (Nat.le_of_ble_eq_true rfl) rfl ?_
    refine gb_iload_n d_X11_hear_30 rfl ?_
    refine gb_bipush 12 d_X11_hear_31 rfl ?_
    refine gb_icmp_ne 43 d_X11_hear_33 (by decide) (fun hc => ?_) (fun hc => ?_)
    · have h := gb_if hc h
      refine gb_aload_n d_X11_hear_43 rfl ?_
      refine gb_getr (r := 79) f_X11_13 (hS 77 _ rfl) rfl d_X11_hear_44 ?_
      refine gb_bipush 104 d_X11_hear_47 rfl ?_
      refine gb_iload_n d_X11_hear_49 rfl ?_
      refine gb_iadd d_X11_hear_50 ?_
      refine gb_iload_n d_X11_hear_51 rfl ?_
      obtain ⟨hi4, h⟩ := gb_ck_e h
      refine gb_iast_ ((104 + (r2.1.1 79 2)).toNatClampNeg) rfl (hS 79 _ rfl) hi4 d_X11_hear_52 ?_
      have h := gb_let_e h
      generalize gb_pi r2.1 79 ((104 + (r2.1.1 79 2)).toNatClampNeg) x1 = g5 at h ⊢
      refine gb_aload_n d_X11_hear_53 rfl ?_
      refine gb_getr (r := 79) f_X11_13 (hS 77 _ rfl) rfl d_X11_hear_54 ?_
      refine gb_iconst 2 d_X11_hear_57 rfl ?_
      refine gb_dup2 d_X11_hear_58 rfl rfl ?_
      refine gb_iald_ 2 rfl (hS 79 _ rfl) (by unfold vp_in; decide) d_X11_hear_59 ?_
      refine gb_iconst 1 d_X11_hear_60 rfl ?_
      refine gb_iadd d_X11_hear_61 ?_
      refine gb_iast_ 2 rfl (hS 79 _ rfl) (by unfold vp_in; decide) d_X11_hear_62 ?_
      have h := gb_let_e h
      generalize gb_pi g5 79 2 ((g5.1 79 2) + 1) = g6 at h ⊢
      refine gb_aload_n d_X11_hear_63 rfl ?_
      refine gb_iload_n d_X11_hear_64 rfl ?_
      refine gb_iconst 1 d_X11_hear_65 rfl ?_
      refine gb_iadd d_X11_hear_66 ?_
      obtain ⟨r7, e8, h⟩ := gb_bd_e h
      refine gb_cVi (As := [.int ((r2.1.1 79 2) + 1)]) (rest := []) m_X11_154 (t_X11_tell (Γ := Γ) hS e8) (hS 77 _ rfl) rfl (Nat.le_of_ble_eq_true rfl) rfl rfl (Nat.le_of_ble_eq_true rfl) d_X11_hear_67 ?_
      cases h
      exact gb_iret d_X11_hear_70 rfl ⟨rfl, rfl, rfl⟩
    · have h := gb_it hc h
      refine gb_aload_n d_X11_hear_36 rfl ?_
      refine gb_bipush (-5) d_X11_hear_37 rfl ?_
      obtain ⟨r9, e10, h⟩ := gb_bd_e h
      refine gb_cVi (As := [.int (-5)]) (rest := []) m_X11_154 (t_X11_tell (Γ := Γ) hS e10) (hS 77 _ rfl) rfl (Nat.le_of_ble_eq_true rfl) rfl rfl (Nat.le_of_ble_eq_true rfl) d_X11_hear_39 ?_
      cases h
      exact gb_iret d_X11_hear_42 rfl ⟨rfl, rfl, rfl⟩
  · have h := gb_it hc h
    refine gb_aload_n d_X11_hear_17 rfl ?_
    refine gb_iconst (-1) d_X11_hear_18 rfl ?_
    obtain ⟨r11, e12, h⟩ := gb_bd_e h
    refine gb_cVi (As := [.int (-1)]) (rest := []) m_X11_154 (t_X11_tell (Γ := Γ) hS e12) (hS 77 _ rfl) rfl (Nat.le_of_ble_eq_true rfl) rfl rfl (Nat.le_of_ble_eq_true rfl) d_X11_hear_19 ?_
    cases h
    exact gb_iret d_X11_hear_22 rfl ⟨rfl, rfl, rfl⟩
-- X11_forget
noncomputable def f_X11_forget (sh : List gb_Sh) (g : gb_G) : Option (gb_G × Int32) := gb_let (gb_pi g 77 0 0) (fun g1 => gb_let (gb_pi g1 79 2 0) (fun g2 => some (g2, (g1.1 79 2))))
set_option maxRecDepth 100000 in
set_option maxHeartbeats 4000000 in
theorem t_X11_forget {Γ : gb_X} {sh : List gb_Sh} {out : gb_G × Int32} (hS : gb_S sh) {g : gb_G} (h : f_X11_forget sh g = some out) : gb_C Γ M_X11_forget 0 0 0 sh g [.ref 77] (gb_Ri sh out) := by
  refine gb_C.of rfl (Nat.le_of_ble_eq_true rfl) ?_
  refine gb_pick (lv' := [(0, .ref 77)]) [0] rfl ?_
  unfold f_X11_forget at h
  refine gb_aload_n d_X11_forget_0 rfl ?_
  refine gb_iconst 0 d_X11_forget_1 rfl ?_
  refine gb_puti f_X11_145 (fun h => nomatch h) (hS 77 _ rfl) rfl rfl rfl d_X11_forget_2 ?_
  have h := gb_let_e h
  generalize gb_pi g 77 0 0 = g1 at h ⊢
  refine gb_aload_n d_X11_forget_5 rfl ?_
  refine gb_getr (r := 79) f_X11_13 (hS 77 _ rfl) rfl d_X11_forget_6 ?_
  refine gb_iconst 2 d_X11_forget_9 rfl ?_
  refine gb_iald_ 2 rfl (hS 79 _ rfl) (by unfold vp_in; decide) d_X11_forget_10 ?_
  refine gb_istore_n [(1, .int (g1.1 79 2)), (0, .ref 77)] d_X11_forget_11 (Nat.le_of_ble_eq_true rfl) rfl ?_
  refine gb_aload_n d_X11_forget_12 rfl ?_
  refine gb_getr (r := 79) f_X11_13 (hS 77 _ rfl) rfl d_X11_forget_13 ?_
  refine gb_iconst 2 d_X11_forget_16 rfl ?_
  refine gb_iconst 0 d_X11_forget_17 rfl ?_
  refine gb_iast_ 2 rfl (hS 79 _ rfl) (by unfold vp_in; decide) d_X11_forget_18 ?_
  have h := gb_let_e h
  generalize gb_pi g1 79 2 0 = g2 at h ⊢
  refine gb_iload_n d_X11_forget_19 rfl ?_
  cases h
  exact gb_iret d_X11_forget_20 rfl ⟨rfl, rfl, rfl⟩
