-- X4_tell
noncomputable def f_X4_tell_100 (sh : List gb_Sh) (b1 : Nat) (g : gb_G) (y3 : Int32) (y4 : Int32) (y5 : Int32) (z0 : Int32) : Option (gb_G × Int32) := if y4 = 0 then (if z0 = 0 then (gb_bd (f_X10_nearest sh g y5 (-9) 9) (fun r4 => some (r4.1, r4.2))) else (some (g, 0))) else if y4 = 1 then (gb_bd (f_X0_sourceOf sh g b1 y3) (fun r7 => if r7.2 = (-1) then (some (r7.1, 0)) else (if z0 = 0 then (gb_bd (f_X10_nearest sh r7.1 y5 0 99) (fun r9 => some (r9.1, r9.2))) else (gb_bd (f_X0_read sh r7.1 b1 y3 2) (fun r11 => some (r11.1, r11.2)))))) else if y4 = 2 then (if z0 = 0 then (gb_bd (f_X10_nearest sh g y5 0 9) (fun r14 => some (r14.1, r14.2))) else (gb_bd (f_X0_read sh g b1 y3 3) (fun r16 => some (r16.1, r16.2)))) else (if z0 = 0 then (some (g, 1)) else (some (g, 0)))
noncomputable def f_X4_tell_88 (sh : List gb_Sh) (b1 : Nat) (g : gb_G) (y3 : Int32) (y4 : Int32) (y5 : Int32) : Option (gb_G × Int32) := if y5 = (-2147483648) then (f_X4_tell_100 sh b1 g y3 y4 y5 1) else (f_X4_tell_100 sh b1 g y3 y4 y5 0)
noncomputable def f_X4_tell_82 (sh : List gb_Sh) (b1 : Nat) (K22 : gb_G → Nat → Int32 → Int32 → Int32 → Int32 → Option (gb_G × Int32)) (g : gb_G) (y2 : Nat) (y3 : Int32) (y4 : Int32) (y5 : Int32) (y6 : Int32) : Option (gb_G × Int32) := K22 g y2 y3 y4 y5 (y6 + (-1))
noncomputable def f_X4_tell_22 (sh : List gb_Sh) (b1 : Nat) (K88 : gb_G → Int32 → Int32 → Int32 → Option (gb_G × Int32)) : Nat → gb_G → Nat → Int32 → Int32 → Int32 → Int32 → Option (gb_G × Int32)
  | 0, _, _, _, _, _, _ => none
  | n + 1, g, y2, y3, y4, y5, y6 => if y6 < 0 then (K88 g y3 y4 y5) else (if y5 = (-2147483648) then (gb_ck y6 (gb_ln sh (y2 + 3)) (if (g.1 (y2 + 3) y6.toNatClampNeg) = y4 then (gb_bd (f_X5_run sh g y2 y6 2 55 9) (fun r21 => if r21.2 = 1 then (gb_bd (f_X5_run sh r21.1 y2 y6 0 55 9) (fun r23 => f_X4_tell_82 sh b1 (fun w w0 w1 w2 w3 w4 => f_X4_tell_22 sh b1 K88 n w w0 w1 w2 w3 w4) r23.1 y2 y3 y4 r23.2 y6)) else (f_X4_tell_82 sh b1 (fun w w0 w1 w2 w3 w4 => f_X4_tell_22 sh b1 K88 n w w0 w1 w2 w3 w4) r21.1 y2 y3 y4 y5 y6))) else (f_X4_tell_82 sh b1 (fun w w0 w1 w2 w3 w4 => f_X4_tell_22 sh b1 K88 n w w0 w1 w2 w3 w4) g y2 y3 y4 y5 y6))) else (K88 g y3 y4 y5))
noncomputable def f_X4_tell (sh : List gb_Sh) (g : gb_G) (b1 : Nat) (q2 : Option Nat) (x3 : Int32) (x4 : Int32) : Option (gb_G × Int32) := match q2 with | none => (f_X4_tell_88 sh b1 g x3 x4 (-2147483648)) | some p1 => gb_gdX7 sh p1 (gb_bd (f_X4_fillWords sh g b1 x3) (fun r18 => f_X4_tell_22 sh b1 (fun w w0 w1 w2 => f_X4_tell_88 sh b1 w w0 w1 w2) gb_N r18 p1 x3 x4 (-2147483648) ((r18.1 p1 3) - 1)))
set_option maxRecDepth 100000 in
set_option maxHeartbeats 4000000 in
theorem t_X4_tell_100 {Γ : gb_X} {sh : List gb_Sh} {b1 : Nat} {out : gb_G × Int32} (hS : gb_S sh) (h_b1 : gb_okX0 sh b1) : ∀ (g : gb_G) (y3 : Int32) (y4 : Int32) (y5 : Int32) (z0 : Int32), f_X4_tell_100 sh b1 g y3 y4 y5 z0 = some out → gb_J Γ M_X4_tell 2 (gb_Ri sh out) 0 0 sh g 100 [(1, .ref b1), (3, .int y3), (4, .int y4), (5, .int y5)] [.int z0] := by
  intro g y3 y4 y5 z0 h
  unfold f_X4_tell_100 at h
  refine gb_istore [(6, .int z0), (1, .ref b1), (3, .int y3), (4, .int y4), (5, .int y5)] d_X4_tell_100 (Nat.le_of_ble_eq_true rfl) rfl ?_
  refine gb_iload d_X4_tell_102 rfl ?_
  by_cases hc3 : y4 = 0
  · have h := gb_it hc3 h
    refine gb_tabI 132 hc3 d_X4_tell_104 (by decide) (by decide) rfl (by decide) ?_
    refine gb_iload d_X4_tell_132 rfl ?_
    refine gb_if_eq 141 d_X4_tell_134 (by decide) (fun hc => ?_) (fun hc => ?_)
    · have h := gb_it hc h
      refine gb_iload d_X4_tell_141 rfl ?_
      refine gb_bipush (-9) d_X4_tell_143 rfl ?_
      refine gb_bipush 9 d_X4_tell_145 rfl ?_
      obtain ⟨r4, e5, h⟩ := gb_bd_e h
      refine gb_cSNi (As := [.int y5, .int (-9), .int 9]) (rest := []) m_X4_42 (t_X10_nearest (Γ := Γ) hS e5) (Nat.le_of_ble_eq_true rfl) rfl rfl (Nat.le_of_ble_eq_true rfl) d_X4_tell_147 ?_
      cases h
      exact gb_iret d_X4_tell_150 rfl ⟨rfl, rfl, rfl⟩
    · have h := gb_if hc h
      refine gb_iconst 0 d_X4_tell_137 rfl ?_
      refine gb_goto 150 d_X4_tell_138 (by decide) ?_
      cases h
      exact gb_iret d_X4_tell_150 rfl ⟨rfl, rfl, rfl⟩
  replace h := gb_if hc3 h
  by_cases hc6 : y4 = 1
  · have h := gb_it hc6 h
    refine gb_tabI 151 hc6 d_X4_tell_104 (by decide) (by decide) rfl (by decide) ?_
    refine gb_aload_n d_X4_tell_151 rfl ?_
    refine gb_iload_n d_X4_tell_152 rfl ?_
    obtain ⟨r7, e8, h⟩ := gb_bd_e h
    refine gb_cVi (As := [.int y3]) (rest := []) m_X4_46 (t_X0_sourceOf (Γ := Γ) hS h_b1 e8) h_b1.1 rfl (Nat.le_of_ble_eq_true rfl) rfl rfl (Nat.le_of_ble_eq_true rfl) d_X4_tell_153 ?_
    refine gb_iconst (-1) d_X4_tell_156 rfl ?_
    refine gb_icmp_ne 162 d_X4_tell_157 (by decide) (fun hc => ?_) (fun hc => ?_)
    · have h := gb_if hc h
      refine gb_iload d_X4_tell_162 rfl ?_
      refine gb_if_eq 176 d_X4_tell_164 (by decide) (fun hc => ?_) (fun hc => ?_)
      · have h := gb_it hc h
        refine gb_iload d_X4_tell_176 rfl ?_
        refine gb_iconst 0 d_X4_tell_178 rfl ?_
        refine gb_bipush 99 d_X4_tell_179 rfl ?_
        obtain ⟨r9, e10, h⟩ := gb_bd_e h
        refine gb_cSNi (As := [.int y5, .int 0, .int 99]) (rest := []) m_X4_42 (t_X10_nearest (Γ := Γ) hS e10) (Nat.le_of_ble_eq_true rfl) rfl rfl (Nat.le_of_ble_eq_true rfl) d_X4_tell_181 ?_
        cases h
        exact gb_iret d_X4_tell_184 rfl ⟨rfl, rfl, rfl⟩
      · have h := gb_if hc h
        refine gb_aload_n d_X4_tell_167 rfl ?_
        refine gb_iload_n d_X4_tell_168 rfl ?_
        refine gb_iconst 2 d_X4_tell_169 rfl ?_
        obtain ⟨r11, e12, h⟩ := gb_bd_e h
        refine gb_cVi (As := [.int y3, .int 2]) (rest := []) m_X4_52 (t_X0_read (Γ := Γ) hS h_b1 e12) h_b1.1 rfl (Nat.le_of_ble_eq_true rfl) rfl rfl (Nat.le_of_ble_eq_true rfl) d_X4_tell_170 ?_
        refine gb_goto 184 d_X4_tell_173 (by decide) ?_
        cases h
        exact gb_iret d_X4_tell_184 rfl ⟨rfl, rfl, rfl⟩
    · have h := gb_it hc h
      refine gb_iconst 0 d_X4_tell_160 rfl ?_
      cases h
      exact gb_iret d_X4_tell_161 rfl ⟨rfl, rfl, rfl⟩
  replace h := gb_if hc6 h
  by_cases hc13 : y4 = 2
  · have h := gb_it hc13 h
    refine gb_tabI 185 hc13 d_X4_tell_104 (by decide) (by decide) rfl (by decide) ?_
    refine gb_iload d_X4_tell_185 rfl ?_
    refine gb_if_eq 199 d_X4_tell_187 (by decide) (fun hc => ?_) (fun hc => ?_)
    · have h := gb_it hc h
      refine gb_iload d_X4_tell_199 rfl ?_
      refine gb_iconst 0 d_X4_tell_201 rfl ?_
      refine gb_bipush 9 d_X4_tell_202 rfl ?_
      obtain ⟨r14, e15, h⟩ := gb_bd_e h
      refine gb_cSNi (As := [.int y5, .int 0, .int 9]) (rest := []) m_X4_42 (t_X10_nearest (Γ := Γ) hS e15) (Nat.le_of_ble_eq_true rfl) rfl rfl (Nat.le_of_ble_eq_true rfl) d_X4_tell_204 ?_
      cases h
      exact gb_iret d_X4_tell_207 rfl ⟨rfl, rfl, rfl⟩
    · have h := gb_if hc h
      refine gb_aload_n d_X4_tell_190 rfl ?_
      refine gb_iload_n d_X4_tell_191 rfl ?_
      refine gb_iconst 3 d_X4_tell_192 rfl ?_
      obtain ⟨r16, e17, h⟩ := gb_bd_e h
      refine gb_cVi (As := [.int y3, .int 3]) (rest := []) m_X4_52 (t_X0_read (Γ := Γ) hS h_b1 e17) h_b1.1 rfl (Nat.le_of_ble_eq_true rfl) rfl rfl (Nat.le_of_ble_eq_true rfl) d_X4_tell_193 ?_
      refine gb_goto 207 d_X4_tell_196 (by decide) ?_
      cases h
      exact gb_iret d_X4_tell_207 rfl ⟨rfl, rfl, rfl⟩
  replace h := gb_if hc13 h
  refine gb_tabO 208 d_X4_tell_104 (gb_out 3 (by decide) (by decide) (by decide) (fun i hi => match i, hi with | 0, _ => hc3 | 1, _ => hc6 | 2, _ => hc13 | q + 3, h9 => absurd h9 (Nat.not_lt.mpr (Nat.le_add_left _ _)))) (by decide) ?_
  refine gb_iload d_X4_tell_208 rfl ?_
  refine gb_if_eq 217 d_X4_tell_210 (by decide) (fun hc => ?_) (fun hc => ?_)
  · have h := gb_it hc h
    refine gb_iconst 1 d_X4_tell_217 rfl ?_
    cases h
    exact gb_iret d_X4_tell_218 rfl ⟨rfl, rfl, rfl⟩
  · have h := gb_if hc h
    refine gb_iconst 0 d_X4_tell_213 rfl ?_
    refine gb_goto 218 d_X4_tell_214 (by decide) ?_
    cases h
    exact gb_iret d_X4_tell_218 rfl ⟨rfl, rfl, rfl⟩
set_option maxRecDepth 100000 in
set_option maxHeartbeats 4000000 in
theorem t_X4_tell_88 {Γ : gb_X} {sh : List gb_Sh} {b1 : Nat} {out : gb_G × Int32} (hS : gb_S sh) (h_b1 : gb_okX0 sh b1) : ∀ (g : gb_G) (y3 : Int32) (y4 : Int32) (y5 : Int32), f_X4_tell_88 sh b1 g y3 y4 y5 = some out → gb_J Γ M_X4_tell 2 (gb_Ri sh out) 0 0 sh g 88 [(1, .ref b1), (3, .int y3), (4, .int y4), (5, .int y5)] [] := by
  intro g y3 y4 y5 h
  unfold f_X4_tell_88 at h
  refine gb_iload d_X4_tell_88 rfl ?_
  refine gb_ldc (-2147483648) k_X4_22 d_X4_tell_90 ?_
  refine gb_icmp_ne 99 d_X4_tell_92 (by decide) (fun hc => ?_) (fun hc => ?_)
  · have h := gb_if hc h
    refine gb_iconst 0 d_X4_tell_99 rfl ?_
    exact t_X4_tell_100 hS h_b1  _ y3 y4 y5 0 h
  · have h := gb_it hc h
    refine gb_iconst 1 d_X4_tell_95 rfl ?_
    refine gb_goto 100 d_X4_tell_96 (by decide) ?_
    exact t_X4_tell_100 hS h_b1  _ y3 y4 y5 1 h
set_option maxRecDepth 100000 in
set_option maxHeartbeats 4000000 in
theorem t_X4_tell_82 {Γ : gb_X} {sh : List gb_Sh} {b1 : Nat} {out : gb_G × Int32} (hS : gb_S sh) (h_b1 : gb_okX0 sh b1) {K22 : gb_G → Nat → Int32 → Int32 → Int32 → Int32 → Option (gb_G × Int32)} (hK22 : ∀ (g : gb_G) (y2 : Nat) (y3 : Int32) (y4 : Int32) (y5 : Int32) (y6 : Int32), gb_okX7 sh y2 → K22 g y2 y3 y4 y5 y6 = some out → gb_J Γ M_X4_tell 2 (gb_Ri sh out) 0 0 sh g 22 [(0, .ref 54), (1, .ref b1), (2, .ref y2), (3, .int y3), (4, .int y4), (5, .int y5), (6, .int y6)] []) : ∀ (g : gb_G) (y2 : Nat) (y3 : Int32) (y4 : Int32) (y5 : Int32) (y6 : Int32), gb_okX7 sh y2 → f_X4_tell_82 sh b1 K22 g y2 y3 y4 y5 y6 = some out → gb_J Γ M_X4_tell 2 (gb_Ri sh out) 0 0 sh g 82 [(0, .ref 54), (1, .ref b1), (2, .ref y2), (3, .int y3), (4, .int y4), (5, .int y5), (6, .int y6)] [] := by
  intro g y2 y3 y4 y5 y6 hp_y2 h
  unfold f_X4_tell_82 at h
  refine gb_iinc (y6 + (-1)) [(6, .int (y6 + (-1))), (0, .ref 54), (1, .ref b1), (2, .ref y2), (3, .int y3), (4, .int y4), (5, .int y5)] d_X4_tell_82 (Nat.le_of_ble_eq_true rfl) rfl rfl rfl ?_
  refine gb_goto 22 d_X4_tell_85 (by decide) ?_
  refine gb_pick (lv' := [(0, .ref 54), (1, .ref b1), (2, .ref y2), (3, .int y3), (4, .int y4), (5, .int y5), (6, .int (y6 + (-1)))]) [1, 2, 3, 4, 5, 6, 0] rfl ?_
  exact hK22 _ y2 y3 y4 y5 (y6 + (-1)) hp_y2 h
set_option maxRecDepth 100000 in
set_option maxHeartbeats 4000000 in
theorem t_X4_tell_22 {Γ : gb_X} {sh : List gb_Sh} {b1 : Nat} {out : gb_G × Int32} (hS : gb_S sh) (h_b1 : gb_okX0 sh b1) {K88 : gb_G → Int32 → Int32 → Int32 → Option (gb_G × Int32)} (hK88 : ∀ (g : gb_G) (y3 : Int32) (y4 : Int32) (y5 : Int32), K88 g y3 y4 y5 = some out → gb_J Γ M_X4_tell 2 (gb_Ri sh out) 0 0 sh g 88 [(1, .ref b1), (3, .int y3), (4, .int y4), (5, .int y5)] []) : ∀ (n : Nat) (g : gb_G) (y2 : Nat) (y3 : Int32) (y4 : Int32) (y5 : Int32) (y6 : Int32), gb_okX7 sh y2 → f_X4_tell_22 sh b1 K88 n g y2 y3 y4 y5 y6 = some out → gb_J Γ M_X4_tell 2 (gb_Ri sh out) 0 0 sh g 22 [(0, .ref 54), (1, .ref b1), (2, .ref y2), (3, .int y3), (4, .int y4), (5, .int y5), (6, .int y6)] [] := by
  intro n
  induction n with
  | zero => intro g y2 y3 y4 y5 y6 hp_y2 h; cases h
  | succ n ih =>
    intro g y2 y3 y4 y5 y6 hp_y2 h
    rw [f_X4_tell_22] at h
    refine gb_iload d_X4_tell_22 rfl ?_
    refine gb_if_lt 88 d_X4_tell_24 (by decide) (fun hc => ?_) (fun hc => ?_)
    · have h := gb_it hc h
      refine gb_pick (lv' := [(1, .ref b1), (3, .int y3), (4, .int y4), (5, .int y5)]) [1, 3, 4, 5] rfl ?_
      exact hK88 _ y3 y4 y5 h
    · have h := gb_if hc h
      refine gb_iload d_X4_tell_27 rfl ?_
      refine gb_ldc (-2147483648) k_X4_22 d_X4_tell_29 ?_
      refine gb_icmp_ne 88 d_X4_tell_31 (by decide) (fun hc => ?_) (fun hc => ?_)
      · have h := gb_if hc h
        refine gb_pick (lv' := [(1, .ref b1), (3, .int y3), (4, .int y4), (5, .int y5)]) [1, 3, 4, 5] rfl ?_
        exact hK88 _ y3 y4 y5 h
      · have h := gb_it hc h
        refine gb_aload_n d_X4_tell_34 rfl ?_
        refine gb_getr (r := (y2 + 3)) f_X4_33 hp_y2.1 rfl d_X4_tell_35 ?_
        refine gb_iload d_X4_tell_38 rfl ?_
        obtain ⟨hi20, h⟩ := gb_ck_e h
        refine gb_iald_ y6.toNatClampNeg rfl hp_y2.2.2.2.1 hi20 d_X4_tell_40 ?_
        refine gb_iload d_X4_tell_41 rfl ?_
        refine gb_icmp_ne 82 d_X4_tell_43 (by decide) (fun hc => ?_) (fun hc => ?_)
        · have h := gb_if hc h
          exact t_X4_tell_82 hS h_b1 (fun w w0 w1 w2 w3 w4 q0 hw => ih w w0 w1 w2 w3 w4 q0 hw) _ y2 y3 y4 y5 y6 hp_y2 h
        · have h := gb_it hc h
          refine gb_aload_n d_X4_tell_46 rfl ?_
          refine gb_getr (r := 52) f_X4_18 (hS 54 _ rfl) rfl d_X4_tell_47 ?_
          refine gb_aload_n d_X4_tell_50 rfl ?_
          refine gb_iload d_X4_tell_51 rfl ?_
          refine gb_iconst 2 d_X4_tell_53 rfl ?_
          refine gb_aload_n d_X4_tell_54 rfl ?_
          refine gb_getr (r := 55) f_X4_9 (hS 54 _ rfl) rfl d_X4_tell_55 ?_
          obtain ⟨r21, e22, h⟩ := gb_bd_e h
          refine gb_cVi (As := [.ref y2, .int y6, .int 2, .ref 55]) (rest := []) m_X4_36 (t_X5_run (Γ := Γ) hS hp_y2 (hS 55 _ rfl) e22) (hS 52 _ rfl) rfl (Nat.le_of_ble_eq_true rfl) rfl rfl (Nat.le_of_ble_eq_true rfl) d_X4_tell_58 ?_
          refine gb_iconst 1 d_X4_tell_61 rfl ?_
          refine gb_icmp_ne 82 d_X4_tell_62 (by decide) (fun hc => ?_) (fun hc => ?_)
          · have h := gb_if hc h
            exact t_X4_tell_82 hS h_b1 (fun w w0 w1 w2 w3 w4 q0 hw => ih w w0 w1 w2 w3 w4 q0 hw) _ y2 y3 y4 y5 y6 hp_y2 h
          · have h := gb_it hc h
            refine gb_aload_n d_X4_tell_65 rfl ?_
            refine gb_getr (r := 52) f_X4_18 (hS 54 _ rfl) rfl d_X4_tell_66 ?_
            refine gb_aload_n d_X4_tell_69 rfl ?_
            refine gb_iload d_X4_tell_70 rfl ?_
            refine gb_iconst 0 d_X4_tell_72 rfl ?_
            refine gb_aload_n d_X4_tell_73 rfl ?_
            refine gb_getr (r := 55) f_X4_9 (hS 54 _ rfl) rfl d_X4_tell_74 ?_
            obtain ⟨r23, e24, h⟩ := gb_bd_e h
            refine gb_cVi (As := [.ref y2, .int y6, .int 0, .ref 55]) (rest := []) m_X4_36 (t_X5_run (Γ := Γ) hS hp_y2 (hS 55 _ rfl) e24) (hS 52 _ rfl) rfl (Nat.le_of_ble_eq_true rfl) rfl rfl (Nat.le_of_ble_eq_true rfl) d_X4_tell_77 ?_
            refine gb_istore [(5, .int r23.2), (0, .ref 54), (1, .ref b1), (2, .ref y2), (3, .int y3), (4, .int y4), (6, .int y6)] d_X4_tell_80 (Nat.le_of_ble_eq_true rfl) rfl ?_
            refine gb_pick (lv' := [(0, .ref 54), (1, .ref b1), (2, .ref y2), (3, .int y3), (4, .int y4), (5, .int r23.2), (6, .int y6)]) [1, 2, 3, 4, 5, 0, 6] rfl ?_
            exact t_X4_tell_82 hS h_b1 (fun w w0 w1 w2 w3 w4 q0 hw => ih w w0 w1 w2 w3 w4 q0 hw) _ y2 y3 y4 r23.2 y6 hp_y2 h
set_option maxRecDepth 100000 in
set_option maxHeartbeats 4000000 in
theorem t_X4_tell {Γ : gb_X} {sh : List gb_Sh} {b1 : Nat} {q2 : Option Nat} {x3 : Int32} {x4 : Int32} {out : gb_G × Int32} (hS : gb_S sh) (h_b1 : gb_okX0 sh b1) {g : gb_G} (h : f_X4_tell sh g b1 q2 x3 x4 = some out) : gb_C Γ M_X4_tell 2 0 0 sh g [.ref 54, .ref b1, va_rf q2, .int x3, .int x4] (gb_Ri sh out) := by
  refine gb_C.of rfl (by cases q2 <;> exact Nat.le_of_ble_eq_true rfl) ?_
  refine gb_pick (lv' := [(0, .ref 54), (1, .ref b1), (2, va_rf q2), (3, .int x3), (4, .int x4)]) [0, 1, 2, 3, 4] (by cases q2 <;> rfl) ?_
  unfold f_X4_tell at h
  refine gb_ldc (-2147483648) k_X4_22 d_X4_tell_0 ?_
  refine gb_istore [(5, .int (-2147483648)), (0, .ref 54), (1, .ref b1), (2, va_rf q2), (3, .int x3), (4, .int x4)] d_X4_tell_2 (Nat.le_of_ble_eq_true rfl) (by cases q2 <;> rfl) ?_
  refine gb_qload_n d_X4_tell_4 rfl ?_
  cases q2 with
  | none =>
    refine gb_ifnull (r := none) 88 d_X4_tell_5 (by decide) (fun _ => ?_) (fun _ q => nomatch q)
    refine gb_pick (lv' := [(1, .ref b1), (3, .int x3), (4, .int x4), (5, .int (-2147483648))]) [2, 4, 5, 0] rfl ?_
    exact t_X4_tell_88 hS h_b1  _ x3 x4 (-2147483648) h
  | some p1 =>
    obtain ⟨hp2, h⟩ := gb_gdX7_e h
    refine gb_ifnull (r := some p1) 88 d_X4_tell_5 (by decide) (fun q => nomatch q) (fun _ _ => ?_)
    refine gb_aload_n d_X4_tell_8 rfl ?_
    refine gb_aload_n d_X4_tell_9 rfl ?_
    refine gb_iload_n d_X4_tell_10 rfl ?_
    obtain ⟨r18, e19, h⟩ := gb_bd_e h
    refine gb_cVv (As := [.ref b1, .int x3]) (rest := []) m_X4_23 (t_X4_fillWords (Γ := Γ) hS h_b1 e19) (hS 54 _ rfl) rfl (Nat.le_of_ble_eq_true rfl) rfl rfl (Nat.le_of_ble_eq_true rfl) d_X4_tell_11 ?_
    refine gb_aload_n d_X4_tell_14 rfl ?_
    refine gb_geti f_X4_27 hp2.1 rfl d_X4_tell_15 ?_
    refine gb_iconst 1 d_X4_tell_18 rfl ?_
    refine gb_isub d_X4_tell_19 ?_
    refine gb_istore [(6, .int ((r18.1 p1 3) - 1)), (5, .int (-2147483648)), (0, .ref 54), (1, .ref b1), (2, .ref p1), (3, .int x3), (4, .int x4)] d_X4_tell_20 (Nat.le_of_ble_eq_true rfl) rfl ?_
    refine gb_pick (lv' := [(0, .ref 54), (1, .ref b1), (2, .ref p1), (3, .int x3), (4, .int x4), (5, .int (-2147483648)), (6, .int ((r18.1 p1 3) - 1))]) [2, 3, 4, 5, 6, 1, 0] rfl ?_
    exact t_X4_tell_22 hS h_b1 (fun w w0 w1 w2 hw => t_X4_tell_88 hS h_b1  w w0 w1 w2 hw) gb_N _ p1 x3 x4 (-2147483648) ((r18.1 p1 3) - 1) hp2 h
-- X1_load
noncomputable def f_X1_load_15 (sh : List gb_Sh) (b1 : Nat) : Nat → gb_G → Option Nat → Int32 → Option (gb_G)
  | 0, _, _, _ => none
  | n + 1, g, y2, y3 => if (g.1 57 1) ≤ y3 then (some g) else (gb_bd (f_X0_sourceOf sh g b1 y3) (fun r4 => gb_bd (f_X0_read sh r4.1 b1 r4.2 0) (fun r6 => gb_ck y3 8 (gb_let (gb_pi r6.1 58 y3.toNatClampNeg r6.2) (fun g9 => gb_bd (f_X0_read sh g9 b1 r4.2 1) (fun r10 => gb_ck y3 8 (gb_let (gb_pi r10.1 59 y3.toNatClampNeg r10.2) (fun g13 => gb_bd (f_X4_tell sh g13 b1 y2 y3 1) (fun r14 => gb_ck y3 8 (gb_let (gb_pi r14.1 60 y3.toNatClampNeg r14.2) (fun g17 => f_X1_load_15 sh b1 n g17 y2 (y3 + 1))))))))))))
noncomputable def f_X1_load (sh : List gb_Sh) (g : gb_G) (b1 : Nat) (q2 : Option Nat) : Option (gb_G) := gb_bd (f_J9_min_7cf53 sh g 8 (g.1 b1 0)) (fun r1 => gb_let (gb_pi r1.1 57 1 r1.2) (fun g3 => f_X1_load_15 sh b1 gb_N g3 q2 0))
set_option maxRecDepth 100000 in
set_option maxHeartbeats 4000000 in
theorem t_X1_load_15 {Γ : gb_X} {sh : List gb_Sh} {b1 : Nat} {out : gb_G} (hS : gb_S sh) (h_b1 : gb_okX0 sh b1) : ∀ (n : Nat) (g : gb_G) (y2 : Option Nat) (y3 : Int32), f_X1_load_15 sh b1 n g y2 y3 = some out → gb_J Γ M_X1_load 3 (gb_Rv sh out) 0 0 sh g 15 [(0, .ref 57), (1, .ref b1), (2, va_rf y2), (3, .int y3)] [] := by
  intro n
  induction n with
  | zero => intro g y2 y3 h; cases h
  | succ n ih =>
    intro g y2 y3 h
    rw [f_X1_load_15] at h
    refine gb_iload_n d_X1_load_15 rfl ?_
    refine gb_aload_n d_X1_load_16 rfl ?_
    refine gb_geti f_X1_9 (hS 57 _ rfl) rfl d_X1_load_17 ?_
    refine gb_icmp_ge 79 d_X1_load_20 (by decide) (fun hc => ?_) (fun hc => ?_)
    · have h := gb_it hc h
      cases h
      exact gb_vret d_X1_load_79 rfl ⟨rfl, rfl, rfl⟩
    · have h := gb_if hc h
      refine gb_aload_n d_X1_load_23 rfl ?_
      refine gb_iload_n d_X1_load_24 rfl ?_
      obtain ⟨r4, e5, h⟩ := gb_bd_e h
      refine gb_cVi (As := [.int y3]) (rest := []) m_X1_48 (t_X0_sourceOf (Γ := Γ) hS h_b1 e5) h_b1.1 rfl (Nat.le_of_ble_eq_true rfl) rfl rfl (Nat.le_of_ble_eq_true rfl) d_X1_load_25 ?_
      refine gb_istore [(4, .int r4.2), (0, .ref 57), (1, .ref b1), (2, va_rf y2), (3, .int y3)] d_X1_load_28 (Nat.le_of_ble_eq_true rfl) (by cases y2 <;> rfl) ?_
      refine gb_aload_n d_X1_load_30 rfl ?_
      refine gb_getr (r := 58) f_X1_15 (hS 57 _ rfl) rfl d_X1_load_31 ?_
      refine gb_iload_n d_X1_load_34 rfl ?_
      refine gb_aload_n d_X1_load_35 rfl ?_
      refine gb_iload d_X1_load_36 rfl ?_
      refine gb_iconst 0 d_X1_load_38 rfl ?_
      obtain ⟨r6, e7, h⟩ := gb_bd_e h
      refine gb_cVi (As := [.int r4.2, .int 0]) (rest := [.int y3, .ref 58]) m_X1_52 (t_X0_read (Γ := Γ) hS h_b1 e7) h_b1.1 rfl (Nat.le_of_ble_eq_true rfl) rfl rfl (Nat.le_of_ble_eq_true rfl) d_X1_load_39 ?_
      obtain ⟨hi8, h⟩ := gb_ck_e h
      refine gb_iast_ y3.toNatClampNeg rfl (hS 58 _ rfl) hi8 d_X1_load_42 ?_
      have h := gb_let_e h
      generalize gb_pi r6.1 58 y3.toNatClampNeg r6.2 = g9 at h ⊢
      refine gb_aload_n d_X1_load_43 rfl ?_
      refine gb_getr (r := 59) f_X1_19 (hS 57 _ rfl) rfl d_X1_load_44 ?_
      refine gb_iload_n d_X1_load_47 rfl ?_
      refine gb_aload_n d_X1_load_48 rfl ?_
      refine gb_iload d_X1_load_49 rfl ?_
      refine gb_iconst 1 d_X1_load_51 rfl ?_
      obtain ⟨r10, e11, h⟩ := gb_bd_e h
      refine gb_cVi (As := [.int r4.2, .int 1]) (rest := [.int y3, .ref 59]) m_X1_52 (t_X0_read (Γ := Γ) hS h_b1 e11) h_b1.1 rfl (Nat.le_of_ble_eq_true rfl) rfl rfl (Nat.le_of_ble_eq_true rfl) d_X1_load_52 ?_
      obtain ⟨hi12, h⟩ := gb_ck_e h
      refine gb_iast_ y3.toNatClampNeg rfl (hS 59 _ rfl) hi12 d_X1_load_55 ?_
      have h := gb_let_e h
      generalize gb_pi r10.1 59 y3.toNatClampNeg r10.2 = g13 at h ⊢
      refine gb_aload_n d_X1_load_56 rfl ?_
      refine gb_getr (r := 60) f_X1_22 (hS 57 _ rfl) rfl d_X1_load_57 ?_
      refine gb_iload_n d_X1_load_60 rfl ?_
      refine gb_aload_n d_X1_load_61 rfl ?_
      refine gb_getr (r := 54) f_X1_35 (hS 57 _ rfl) rfl d_X1_load_62 ?_
      refine gb_aload_n d_X1_load_65 rfl ?_
      refine gb_qload_n d_X1_load_66 rfl ?_
      refine gb_iload_n d_X1_load_67 rfl ?_
      refine gb_iconst 1 d_X1_load_68 rfl ?_
      obtain ⟨r14, e15, h⟩ := gb_bd_e h
      refine gb_cVi (As := [.ref b1, va_rf y2, .int y3, .int 1]) (rest := [.int y3, .ref 60]) m_X1_55 (t_X4_tell (Γ := Γ) hS h_b1 e15) (hS 54 _ rfl) rfl (Nat.le_of_ble_eq_true rfl) rfl rfl (Nat.le_of_ble_eq_true rfl) d_X1_load_69 ?_
      obtain ⟨hi16, h⟩ := gb_ck_e h
      refine gb_iast_ y3.toNatClampNeg rfl (hS 60 _ rfl) hi16 d_X1_load_72 ?_
      have h := gb_let_e h
      generalize gb_pi r14.1 60 y3.toNatClampNeg r14.2 = g17 at h ⊢
      refine gb_iinc (y3 + 1) [(3, .int (y3 + 1)), (4, .int r4.2), (0, .ref 57), (1, .ref b1), (2, va_rf y2)] d_X1_load_73 (Nat.le_of_ble_eq_true rfl) rfl rfl (by cases y2 <;> rfl) ?_
      refine gb_goto 15 d_X1_load_76 (by decide) ?_
      refine gb_pick (lv' := [(0, .ref 57), (1, .ref b1), (2, va_rf y2), (3, .int (y3 + 1))]) [2, 3, 4, 0] rfl ?_
      exact ih _ y2 (y3 + 1) h
set_option maxRecDepth 100000 in
set_option maxHeartbeats 4000000 in
theorem t_X1_load {Γ : gb_X} {sh : List gb_Sh} {b1 : Nat} {q2 : Option Nat} {out : gb_G} (hS : gb_S sh) (h_b1 : gb_okX0 sh b1) {g : gb_G} (h : f_X1_load sh g b1 q2 = some out) : gb_C Γ M_X1_load 3 0 0 sh g [.ref 57, .ref b1, va_rf q2] (gb_Rv sh out) := by
  refine gb_C.of rfl (by cases q2 <;> exact Nat.le_of_ble_eq_true rfl) ?_
  refine gb_pick (lv' := [(0, .ref 57), (1, .ref b1), (2, va_rf q2)]) [0, 1, 2] (by cases q2 <;> rfl) ?_
  unfold f_X1_load at h
  refine gb_aload_n d_X1_load_0 rfl ?_
  refine gb_bipush 8 d_X1_load_1 rfl ?_
  refine gb_aload_n d_X1_load_3 rfl ?_
  refine gb_geti f_X1_39 h_b1.1 rfl d_X1_load_4 ?_
  obtain ⟨r1, e2, h⟩ := gb_bd_e h
  refine gb_cSi (As := [.int 8, .int (g.1 b1 0)]) (rest := [.ref 57]) m_X1_42 (t_J9_min_7cf53 (Γ := Γ) hS e2) (Nat.le_of_ble_eq_true rfl) rfl rfl (Nat.le_of_ble_eq_true rfl) d_X1_load_7 ?_
  refine gb_puti f_X1_9 (fun h => nomatch h) (hS 57 _ rfl) rfl rfl rfl d_X1_load_10 ?_
  have h := gb_let_e h
  generalize gb_pi r1.1 57 1 r1.2 = g3 at h ⊢
  refine gb_iconst 0 d_X1_load_13 rfl ?_
  refine gb_istore_n [(3, .int 0), (0, .ref 57), (1, .ref b1), (2, va_rf q2)] d_X1_load_14 (Nat.le_of_ble_eq_true rfl) (by cases q2 <;> rfl) ?_
  refine gb_pick (lv' := [(0, .ref 57), (1, .ref b1), (2, va_rf q2), (3, .int 0)]) [1, 2, 3, 0] rfl ?_
  exact t_X1_load_15 hS h_b1  gb_N _ q2 0 h
-- X1_countOfAll
noncomputable def f_X1_countOfAll_4 (sh : List gb_Sh) : Nat → gb_G → Int32 → Int32 → Option (gb_G × Int32)
  | 0, _, _, _ => none
  | n + 1, g, y1, y2 => if (g.1 57 1) ≤ y2 then (some (g, y1)) else (gb_ck y2 8 (f_X1_countOfAll_4 sh n g (y1 + (g.1 60 y2.toNatClampNeg)) (y2 + 1)))
noncomputable def f_X1_countOfAll (sh : List gb_Sh) (g : gb_G) : Option (gb_G × Int32) := f_X1_countOfAll_4 sh gb_N g 0 0
set_option maxRecDepth 100000 in
set_option maxHeartbeats 4000000 in
theorem t_X1_countOfAll_4 {Γ : gb_X} {sh : List gb_Sh} {out : gb_G × Int32} (hS : gb_S sh) : ∀ (n : Nat) (g : gb_G) (y1 : Int32) (y2 : Int32), f_X1_countOfAll_4 sh n g y1 y2 = some out → gb_J Γ M_X1_countOfAll 0 (gb_Ri sh out) 0 0 sh g 4 [(0, .ref 57), (1, .int y1), (2, .int y2)] [] := by
  intro n
  induction n with
  | zero => intro g y1 y2 h; cases h
  | succ n ih =>
    intro g y1 y2 h
    rw [f_X1_countOfAll_4] at h
    refine gb_iload_n d_X1_countOfAll_4 rfl ?_
    refine gb_aload_n d_X1_countOfAll_5 rfl ?_
    refine gb_geti f_X1_9 (hS 57 _ rfl) rfl d_X1_countOfAll_6 ?_
    refine gb_icmp_ge 27 d_X1_countOfAll_9 (by decide) (fun hc => ?_) (fun hc => ?_)
    · have h := gb_it hc h
      refine gb_iload_n d_X1_countOfAll_27 rfl ?_
      cases h
      exact gb_iret d_X1_countOfAll_28 rfl ⟨rfl, rfl, rfl⟩
    · have h := gb_if hc h
      refine gb_iload_n d_X1_countOfAll_12 rfl ?_
      refine gb_aload_n d_X1_countOfAll_13 rfl ?_
      refine gb_getr (r := 60) f_X1_22 (hS 57 _ rfl) rfl d_X1_countOfAll_14 ?_
      refine gb_iload_n d_X1_countOfAll_17 rfl ?_
      obtain ⟨hi1, h⟩ := gb_ck_e h
      refine gb_iald_ y2.toNatClampNeg rfl (hS 60 _ rfl) hi1 d_X1_countOfAll_18 ?_
      refine gb_iadd d_X1_countOfAll_19 ?_
      refine gb_istore_n [(1, .int (y1 + (g.1 60 y2.toNatClampNeg))), (0, .ref 57), (2, .int y2)] d_X1_countOfAll_20 (Nat.le_of_ble_eq_true rfl) rfl ?_
      refine gb_iinc (y2 + 1) [(2, .int (y2 + 1)), (1, .int (y1 + (g.1 60 y2.toNatClampNeg))), (0, .ref 57)] d_X1_countOfAll_21 (Nat.le_of_ble_eq_true rfl) rfl rfl rfl ?_
      refine gb_goto 4 d_X1_countOfAll_24 (by decide) ?_
      refine gb_pick (lv' := [(0, .ref 57), (1, .int (y1 + (g.1 60 y2.toNatClampNeg))), (2, .int (y2 + 1))]) [2, 1, 0] rfl ?_
      exact ih _ (y1 + (g.1 60 y2.toNatClampNeg)) (y2 + 1) h
set_option maxRecDepth 100000 in
set_option maxHeartbeats 4000000 in
theorem t_X1_countOfAll {Γ : gb_X} {sh : List gb_Sh} {out : gb_G × Int32} (hS : gb_S sh) {g : gb_G} (h : f_X1_countOfAll sh g = some out) : gb_C Γ M_X1_countOfAll 0 0 0 sh g [.ref 57] (gb_Ri sh out) := by
  refine gb_C.of rfl (Nat.le_of_ble_eq_true rfl) ?_
  refine gb_pick (lv' := [(0, .ref 57)]) [0] rfl ?_
  unfold f_X1_countOfAll at h
  refine gb_iconst 0 d_X1_countOfAll_0 rfl ?_
  refine gb_istore_n [(1, .int 0), (0, .ref 57)] d_X1_countOfAll_1 (Nat.le_of_ble_eq_true rfl) rfl ?_
  refine gb_iconst 0 d_X1_countOfAll_2 rfl ?_
  refine gb_istore_n [(2, .int 0), (1, .int 0), (0, .ref 57)] d_X1_countOfAll_3 (Nat.le_of_ble_eq_true rfl) rfl ?_
  refine gb_pick (lv' := [(0, .ref 57), (1, .int 0), (2, .int 0)]) [2, 1, 0] rfl ?_
  exact t_X1_countOfAll_4 hS  gb_N _ 0 0 h
-- X1_outermost
noncomputable def f_X1_outermost_59 (sh : List gb_Sh) (a1 : Nat) (a2 : Nat) (K6 : gb_G → Int32 → Int32 → Int32 → Option (gb_G × Int32)) (g : gb_G) (y3 : Int32) (y4 : Int32) (y5 : Int32) : Option (gb_G × Int32) := K6 g y3 y4 (y5 + 1)
noncomputable def f_X1_outermost_55 (sh : List gb_Sh) (a1 : Nat) (a2 : Nat) (K59 : gb_G → Int32 → Int32 → Int32 → Option (gb_G × Int32)) (g : gb_G) (y3 : Int32) (y5 : Int32) : Option (gb_G × Int32) := K59 g y3 y5 y5
noncomputable def f_X1_outermost_6 (sh : List gb_Sh) (a1 : Nat) (a2 : Nat) : Nat → gb_G → Int32 → Int32 → Int32 → Option (gb_G × Int32)
  | 0, _, _, _, _ => none
  | n + 1, g, y3, y4, y5 => if (g.1 57 1) ≤ y5 then (some (g, y4)) else (gb_ck y5 8 (if (g.1 60 y5.toNatClampNeg) ≤ 0 then (f_X1_outermost_59 sh a1 a2 (fun w w0 w1 w2 => f_X1_outermost_6 sh a1 a2 n w w0 w1 w2) g y3 y4 y5) else (if y4 = (-1) then (f_X1_outermost_55 sh a1 a2 (fun w w0 w1 w2 => f_X1_outermost_59 sh a1 a2 (fun w w0 w1 w2 => f_X1_outermost_6 sh a1 a2 n w w0 w1 w2) w w0 w1 w2) g y3 y5) else (gb_ck y5 8 (gb_ck y4 8 (gb_ck y4 8 (gb_ck y5 8 (if (y3 * (((g.1 a1 y5.toNatClampNeg) * (g.1 a2 y4.toNatClampNeg)) - ((g.1 a1 y4.toNatClampNeg) * (g.1 a2 y5.toNatClampNeg)))) ≤ 0 then (f_X1_outermost_59 sh a1 a2 (fun w w0 w1 w2 => f_X1_outermost_6 sh a1 a2 n w w0 w1 w2) g y3 y4 y5) else (f_X1_outermost_55 sh a1 a2 (fun w w0 w1 w2 => f_X1_outermost_59 sh a1 a2 (fun w w0 w1 w2 => f_X1_outermost_6 sh a1 a2 n w w0 w1 w2) w w0 w1 w2) g y3 y5)))))))))
noncomputable def f_X1_outermost (sh : List gb_Sh) (g : gb_G) (a1 : Nat) (a2 : Nat) (x3 : Int32) : Option (gb_G × Int32) := f_X1_outermost_6 sh a1 a2 gb_N g x3 (-1) 0
set_option maxRecDepth 100000 in
set_option maxHeartbeats 4000000 in
theorem t_X1_outermost_59 {Γ : gb_X} {sh : List gb_Sh} {a1 : Nat} {a2 : Nat} {out : gb_G × Int32} (hS : gb_S sh) (h_a1 : sh[a1]? = some (.inl (0, 8))) (h_a2 : sh[a2]? = some (.inl (0, 8))) {K6 : gb_G → Int32 → Int32 → Int32 → Option (gb_G × Int32)} (hK6 : ∀ (g : gb_G) (y3 : Int32) (y4 : Int32) (y5 : Int32), K6 g y3 y4 y5 = some out → gb_J Γ M_X1_outermost 0 (gb_Ri sh out) 0 0 sh g 6 [(0, .ref 57), (1, .ref a1), (2, .ref a2), (3, .int y3), (4, .int y4), (5, .int y5)] []) : ∀ (g : gb_G) (y3 : Int32) (y4 : Int32) (y5 : Int32), f_X1_outermost_59 sh a1 a2 K6 g y3 y4 y5 = some out → gb_J Γ M_X1_outermost 0 (gb_Ri sh out) 0 0 sh g 59 [(0, .ref 57), (1, .ref a1), (2, .ref a2), (3, .int y3), (4, .int y4), (5, .int y5)] [] := by
  intro g y3 y4 y5 h
  unfold f_X1_outermost_59 at h
  refine gb_iinc (y5 + 1) [(5, .int (y5 + 1)), (0, .ref 57), (1, .ref a1), (2, .ref a2), (3, .int y3), (4, .int y4)] d_X1_outermost_59 (Nat.le_of_ble_eq_true rfl) rfl rfl rfl ?_
  refine gb_goto 6 d_X1_outermost_62 (by decide) ?_
  refine gb_pick (lv' := [(0, .ref 57), (1, .ref a1), (2, .ref a2), (3, .int y3), (4, .int y4), (5, .int (y5 + 1))]) [1, 2, 3, 4, 5, 0] rfl ?_
  exact hK6 _ y3 y4 (y5 + 1) h
set_option maxRecDepth 100000 in
set_option maxHeartbeats 4000000 in
theorem t_X1_outermost_55 {Γ : gb_X} {sh : List gb_Sh} {a1 : Nat} {a2 : Nat} {out : gb_G × Int32} (hS : gb_S sh) (h_a1 : sh[a1]? = some (.inl (0, 8))) (h_a2 : sh[a2]? = some (.inl (0, 8))) {K59 : gb_G → Int32 → Int32 → Int32 → Option (gb_G × Int32)} (hK59 : ∀ (g : gb_G) (y3 : Int32) (y4 : Int32) (y5 : Int32), K59 g y3 y4 y5 = some out → gb_J Γ M_X1_outermost 0 (gb_Ri sh out) 0 0 sh g 59 [(0, .ref 57), (1, .ref a1), (2, .ref a2), (3, .int y3), (4, .int y4), (5, .int y5)] []) : ∀ (g : gb_G) (y3 : Int32) (y5 : Int32), f_X1_outermost_55 sh a1 a2 K59 g y3 y5 = some out → gb_J Γ M_X1_outermost 0 (gb_Ri sh out) 0 0 sh g 55 [(0, .ref 57), (1, .ref a1), (2, .ref a2), (3, .int y3), (5, .int y5)] [] := by
  intro g y3 y5 h
  unfold f_X1_outermost_55 at h
  refine gb_iload d_X1_outermost_55 rfl ?_
  refine gb_istore [(4, .int y5), (0, .ref 57), (1, .ref a1), (2, .ref a2), (3, .int y3), (5, .int y5)] d_X1_outermost_57 (Nat.le_of_ble_eq_true rfl) rfl ?_
  refine gb_pick (lv' := [(0, .ref 57), (1, .ref a1), (2, .ref a2), (3, .int y3), (4, .int y5), (5, .int y5)]) [1, 2, 3, 4, 0, 5] rfl ?_
  exact hK59 _ y3 y5 y5 h
set_option maxRecDepth 100000 in
set_option maxHeartbeats 4000000 in
theorem t_X1_outermost_6 {Γ : gb_X} {sh : List gb_Sh} {a1 : Nat} {a2 : Nat} {out : gb_G × Int32} (hS : gb_S sh) (h_a1 : sh[a1]? = some (.inl (0, 8))) (h_a2 : sh[a2]? = some (.inl (0, 8))) : ∀ (n : Nat) (g : gb_G) (y3 : Int32) (y4 : Int32) (y5 : Int32), f_X1_outermost_6 sh a1 a2 n g y3 y4 y5 = some out → gb_J Γ M_X1_outermost 0 (gb_Ri sh out) 0 0 sh g 6 [(0, .ref 57), (1, .ref a1), (2, .ref a2), (3, .int y3), (4, .int y4), (5, .int y5)] [] := by
  intro n
  induction n with
  | zero => intro g y3 y4 y5 h; cases h
  | succ n ih =>
    intro g y3 y4 y5 h
    rw [f_X1_outermost_6] at h
    refine gb_iload d_X1_outermost_6 rfl ?_
    refine gb_aload_n d_X1_outermost_8 rfl ?_
    refine gb_geti f_X1_9 (hS 57 _ rfl) rfl d_X1_outermost_9 ?_
    refine gb_icmp_ge 65 d_X1_outermost_12 (by decide) (fun hc => ?_) (fun hc => ?_)
    · have h := gb_it hc h
      refine gb_iload d_X1_outermost_65 rfl ?_
      cases h
      exact gb_iret d_X1_outermost_67 rfl ⟨rfl, rfl, rfl⟩
    · have h := gb_if hc h
      refine gb_aload_n d_X1_outermost_15 rfl ?_
      refine gb_getr (r := 60) f_X1_22 (hS 57 _ rfl) rfl d_X1_outermost_16 ?_
      refine gb_iload d_X1_outermost_19 rfl ?_
      obtain ⟨hi1, h⟩ := gb_ck_e h
      refine gb_iald_ y5.toNatClampNeg rfl (hS 60 _ rfl) hi1 d_X1_outermost_21 ?_
      refine gb_if_le 59 d_X1_outermost_22 (by decide) (fun hc => ?_) (fun hc => ?_)
      · have h := gb_it hc h
        exact t_X1_outermost_59 hS h_a1 h_a2 (fun w w0 w1 w2 hw => ih w w0 w1 w2 hw) _ y3 y4 y5 h
      · have h := gb_if hc h
        refine gb_iload d_X1_outermost_25 rfl ?_
        refine gb_iconst (-1) d_X1_outermost_27 rfl ?_
        refine gb_icmp_eq 55 d_X1_outermost_28 (by decide) (fun hc => ?_) (fun hc => ?_)
        · have h := gb_it hc h
          refine gb_pick (lv' := [(0, .ref 57), (1, .ref a1), (2, .ref a2), (3, .int y3), (5, .int y5)]) [0, 1, 2, 3, 5] rfl ?_
          exact t_X1_outermost_55 hS h_a1 h_a2 (fun w w0 w1 w2 hw => t_X1_outermost_59 hS h_a1 h_a2 (fun w w0 w1 w2 hw => ih w w0 w1 w2 hw) w w0 w1 w2 hw) _ y3 y5 h
        · have h := gb_if hc h
          refine gb_iload_n d_X1_outermost_31 rfl ?_
          refine gb_aload_n d_X1_outermost_32 rfl ?_
          refine gb_iload d_X1_outermost_33 rfl ?_
          obtain ⟨hi2, h⟩ := gb_ck_e h
          refine gb_iald_ y5.toNatClampNeg rfl h_a1 hi2 d_X1_outermost_35 ?_
          refine gb_aload_n d_X1_outermost_36 rfl ?_
          refine gb_iload d_X1_outermost_37 rfl ?_
          obtain ⟨hi3, h⟩ := gb_ck_e h
          refine gb_iald_ y4.toNatClampNeg rfl h_a2 hi3 d_X1_outermost_39 ?_
          refine gb_imul d_X1_outermost_40 ?_
          refine gb_aload_n d_X1_outermost_41 rfl ?_
          refine gb_iload d_X1_outermost_42 rfl ?_
          obtain ⟨hi4, h⟩ := gb_ck_e h
          refine gb_iald_ y4.toNatClampNeg rfl h_a1 hi4 d_X1_outermost_44 ?_
          refine gb_aload_n d_X1_outermost_45 rfl ?_
          refine gb_iload d_X1_outermost_46 rfl ?_
          obtain ⟨hi5, h⟩ := gb_ck_e h
          refine gb_iald_ y5.toNatClampNeg rfl h_a2 hi5 d_X1_outermost_48 ?_
          refine gb_imul d_X1_outermost_49 ?_
          refine gb_isub d_X1_outermost_50 ?_
          refine gb_imul d_X1_outermost_51 ?_
          refine gb_if_le 59 d_X1_outermost_52 (by decide) (fun hc => ?_) (fun hc => ?_)
          · have h := gb_it hc h
            exact t_X1_outermost_59 hS h_a1 h_a2 (fun w w0 w1 w2 hw => ih w w0 w1 w2 hw) _ y3 y4 y5 h
          · have h := gb_if hc h
            refine gb_pick (lv' := [(0, .ref 57), (1, .ref a1), (2, .ref a2), (3, .int y3), (5, .int y5)]) [0, 1, 2, 3, 5] rfl ?_
            exact t_X1_outermost_55 hS h_a1 h_a2 (fun w w0 w1 w2 hw => t_X1_outermost_59 hS h_a1 h_a2 (fun w w0 w1 w2 hw => ih w w0 w1 w2 hw) w w0 w1 w2 hw) _ y3 y5 h
set_option maxRecDepth 100000 in
set_option maxHeartbeats 4000000 in
theorem t_X1_outermost {Γ : gb_X} {sh : List gb_Sh} {a1 : Nat} {a2 : Nat} {x3 : Int32} {out : gb_G × Int32} (hS : gb_S sh) (h_a1 : sh[a1]? = some (.inl (0, 8))) (h_a2 : sh[a2]? = some (.inl (0, 8))) {g : gb_G} (h : f_X1_outermost sh g a1 a2 x3 = some out) : gb_C Γ M_X1_outermost 0 0 0 sh g [.ref 57, .ref a1, .ref a2, .int x3] (gb_Ri sh out) := by
  refine gb_C.of rfl (Nat.le_of_ble_eq_true rfl) ?_
  refine gb_pick (lv' := [(0, .ref 57), (1, .ref a1), (2, .ref a2), (3, .int x3)]) [0, 1, 2, 3] rfl ?_
  unfold f_X1_outermost at h
  refine gb_iconst (-1) d_X1_outermost_0 rfl ?_
  refine gb_istore [(4, .int (-1)), (0, .ref 57), (1, .ref a1), (2, .ref a2), (3, .int x3)] d_X1_outermost_1 (Nat.le_of_ble_eq_true rfl) rfl ?_
  refine gb_iconst 0 d_X1_outermost_3 rfl ?_
  refine gb_istore [(5, .int 0), (4, .int (-1)), (0, .ref 57), (1, .ref a1), (2, .ref a2), (3, .int x3)] d_X1_outermost_4 (Nat.le_of_ble_eq_true rfl) rfl ?_
  refine gb_pick (lv' := [(0, .ref 57), (1, .ref a1), (2, .ref a2), (3, .int x3), (4, .int (-1)), (5, .int 0)]) [2, 3, 4, 5, 1, 0] rfl ?_
  exact t_X1_outermost_6 hS h_a1 h_a2  gb_N _ x3 (-1) 0 h
-- X1_weighed
noncomputable def f_X1_weighed_5 (sh : List gb_Sh) (a1 : Nat) : Nat → gb_G → Int64 → Int32 → Option (gb_G × Int64)
  | 0, _, _, _ => none
  | n + 1, g, y2, y4 => if (g.1 57 1) ≤ y4 then (some (g, y2)) else (gb_ck y4 8 (gb_ck y4 8 (f_X1_weighed_5 sh a1 n g (y2 + (((g.1 a1 y4.toNatClampNeg).toInt64) * ((g.1 60 y4.toNatClampNeg).toInt64))) (y4 + 1))))
noncomputable def f_X1_weighed (sh : List gb_Sh) (g : gb_G) (a1 : Nat) : Option (gb_G × Int64) := f_X1_weighed_5 sh a1 gb_N g 0 0
set_option maxRecDepth 100000 in
set_option maxHeartbeats 4000000 in
theorem t_X1_weighed_5 {Γ : gb_X} {sh : List gb_Sh} {a1 : Nat} {out : gb_G × Int64} (hS : gb_S sh) (h_a1 : sh[a1]? = some (.inl (0, 8))) : ∀ (n : Nat) (g : gb_G) (y2 : Int64) (y4 : Int32), f_X1_weighed_5 sh a1 n g y2 y4 = some out → gb_J Γ M_X1_weighed 0 (gb_Rl sh out) 0 0 sh g 5 [(0, .ref 57), (1, .ref a1), (2, .long y2), (4, .int y4)] [] := by
  intro n
  induction n with
  | zero => intro g y2 y4 h; cases h
  | succ n ih =>
    intro g y2 y4 h
    rw [f_X1_weighed_5] at h
    refine gb_iload d_X1_weighed_5 rfl ?_
    refine gb_aload_n d_X1_weighed_7 rfl ?_
    refine gb_geti f_X1_9 (hS 57 _ rfl) rfl d_X1_weighed_8 ?_
    refine gb_icmp_ge 37 d_X1_weighed_11 (by decide) (fun hc => ?_) (fun hc => ?_)
    · have h := gb_it hc h
      refine gb_lload_n d_X1_weighed_37 rfl ?_
      cases h
      exact gb_lret d_X1_weighed_38 rfl ⟨rfl, rfl, rfl⟩
    · have h := gb_if hc h
      refine gb_lload_n d_X1_weighed_14 rfl ?_
      refine gb_aload_n d_X1_weighed_15 rfl ?_
      refine gb_iload d_X1_weighed_16 rfl ?_
      obtain ⟨hi1, h⟩ := gb_ck_e h
      refine gb_iald_ y4.toNatClampNeg rfl h_a1 hi1 d_X1_weighed_18 ?_
      refine gb_i2l d_X1_weighed_19 ?_
      refine gb_aload_n d_X1_weighed_20 rfl ?_
      refine gb_getr (r := 60) f_X1_22 (hS 57 _ rfl) rfl d_X1_weighed_21 ?_
      refine gb_iload d_X1_weighed_24 rfl ?_
      obtain ⟨hi2, h⟩ := gb_ck_e h
      refine gb_iald_ y4.toNatClampNeg rfl (hS 60 _ rfl) hi2 d_X1_weighed_26 ?_
      refine gb_i2l d_X1_weighed_27 ?_
      refine gb_lmul d_X1_weighed_28 ?_
      refine gb_ladd d_X1_weighed_29 ?_
      refine gb_lstore_n [(2, .long (y2 + (((g.1 a1 y4.toNatClampNeg).toInt64) * ((g.1 60 y4.toNatClampNeg).toInt64)))), (0, .ref 57), (1, .ref a1), (4, .int y4)] d_X1_weighed_30 (Nat.le_of_ble_eq_true rfl) rfl ?_
      refine gb_iinc (y4 + 1) [(4, .int (y4 + 1)), (2, .long (y2 + (((g.1 a1 y4.toNatClampNeg).toInt64) * ((g.1 60 y4.toNatClampNeg).toInt64)))), (0, .ref 57), (1, .ref a1)] d_X1_weighed_31 (Nat.le_of_ble_eq_true rfl) rfl rfl rfl ?_
      refine gb_goto 5 d_X1_weighed_34 (by decide) ?_
      refine gb_pick (lv' := [(0, .ref 57), (1, .ref a1), (2, .long (y2 + (((g.1 a1 y4.toNatClampNeg).toInt64) * ((g.1 60 y4.toNatClampNeg).toInt64)))), (4, .int (y4 + 1))]) [2, 3, 1, 0] rfl ?_
      exact ih _ (y2 + (((g.1 a1 y4.toNatClampNeg).toInt64) * ((g.1 60 y4.toNatClampNeg).toInt64))) (y4 + 1) h
set_option maxRecDepth 100000 in
set_option maxHeartbeats 4000000 in
theorem t_X1_weighed {Γ : gb_X} {sh : List gb_Sh} {a1 : Nat} {out : gb_G × Int64} (hS : gb_S sh) (h_a1 : sh[a1]? = some (.inl (0, 8))) {g : gb_G} (h : f_X1_weighed sh g a1 = some out) : gb_C Γ M_X1_weighed 0 0 0 sh g [.ref 57, .ref a1] (gb_Rl sh out) := by
  refine gb_C.of rfl (Nat.le_of_ble_eq_true rfl) ?_
  refine gb_pick (lv' := [(0, .ref 57), (1, .ref a1)]) [0, 1] rfl ?_
  unfold f_X1_weighed at h
  refine gb_lconst 0 d_X1_weighed_0 rfl ?_
  refine gb_lstore_n [(2, .long 0), (0, .ref 57), (1, .ref a1)] d_X1_weighed_1 (Nat.le_of_ble_eq_true rfl) rfl ?_
  refine gb_iconst 0 d_X1_weighed_2 rfl ?_
  refine gb_istore [(4, .int 0), (2, .long 0), (0, .ref 57), (1, .ref a1)] d_X1_weighed_3 (Nat.le_of_ble_eq_true rfl) rfl ?_
  refine gb_pick (lv' := [(0, .ref 57), (1, .ref a1), (2, .long 0), (4, .int 0)]) [2, 3, 1, 0] rfl ?_
  exact t_X1_weighed_5 hS h_a1  gb_N _ 0 0 h
-- J9_abs_067f4
noncomputable def f_J9_abs_067f4 (sh : List gb_Sh) (g : gb_G) (x1 : Int64) : Option (gb_G × Int64) := if 0 ≤ (lg_cmp x1 0) then (some (g, x1)) else (some (g, (-x1)))
set_option maxRecDepth 100000 in
set_option maxHeartbeats 4000000 in
theorem t_J9_abs_067f4 {Γ : gb_X} {sh : List gb_Sh} {x1 : Int64} {out : gb_G × Int64} (hS : gb_S sh) {g : gb_G} (h : f_J9_abs_067f4 sh g x1 = some out) : gb_C Γ M_J9_abs_067f4 0 0 0 sh g [.long x1] (gb_Rl sh out) := by
  refine gb_C.ofF (by decide +kernel) (Nat.le_of_ble_eq_true rfl) ?_
  refine gb_pick (lv' := [(0, .long x1)]) [0] rfl ?_
  unfold f_J9_abs_067f4 at h
  refine gb_lload_n d_J9_abs_067f4_0 rfl ?_
  refine gb_lconst 0 d_J9_abs_067f4_1 rfl ?_
  refine gb_lcmp d_J9_abs_067f4_2 ?_
  refine gb_if_ge 11 d_J9_abs_067f4_3 (by decide) (fun hc => ?_) (fun hc => ?_)
  · have h := gb_it hc h
    refine gb_lload_n d_J9_abs_067f4_11 rfl ?_
    cases h
    exact gb_lret d_J9_abs_067f4_12 rfl ⟨rfl, rfl, rfl⟩
  · have h := gb_if hc h
    refine gb_lload_n d_J9_abs_067f4_6 rfl ?_
    refine gb_lneg d_J9_abs_067f4_7 ?_
    refine gb_goto 12 d_J9_abs_067f4_8 (by decide) ?_
    cases h
    exact gb_lret d_J9_abs_067f4_12 rfl ⟨rfl, rfl, rfl⟩
-- X2_commonDivisor
noncomputable def f_X2_commonDivisor_9 (sh : List gb_Sh) : Nat → gb_G → Int64 → Int64 → Int32 → Option (gb_G × Int64)
  | 0, _, _, _, _ => none
  | n + 1, g, y4, y6, y8 => if 200 ≤ y8 then (some (g, y4)) else (if (lg_cmp y6 0) = 0 then (some (g, y4)) else (gb_nzl y6 (f_X2_commonDivisor_9 sh n g y6 (gb_reml y4 y6) (y8 + 1))))
noncomputable def f_X2_commonDivisor (sh : List gb_Sh) (g : gb_G) (x1 : Int64) (x2 : Int64) : Option (gb_G × Int64) := f_X2_commonDivisor_9 sh gb_N g x1 x2 0
set_option maxRecDepth 100000 in
set_option maxHeartbeats 4000000 in
theorem t_X2_commonDivisor_9 {Γ : gb_X} {sh : List gb_Sh} {out : gb_G × Int64} (hS : gb_S sh) : ∀ (n : Nat) (g : gb_G) (y4 : Int64) (y6 : Int64) (y8 : Int32), f_X2_commonDivisor_9 sh n g y4 y6 y8 = some out → gb_J Γ M_X2_commonDivisor 0 (gb_Rl sh out) 0 0 sh g 9 [(4, .long y4), (6, .long y6), (8, .int y8)] [] := by
  intro n
  induction n with
  | zero => intro g y4 y6 y8 h; cases h
  | succ n ih =>
    intro g y4 y6 y8 h
    rw [f_X2_commonDivisor_9] at h
    refine gb_iload d_X2_commonDivisor_9 rfl ?_
    refine gb_sipush 200 d_X2_commonDivisor_11 rfl ?_
    refine gb_icmp_ge 45 d_X2_commonDivisor_14 (by decide) (fun hc => ?_) (fun hc => ?_)
    · have h := gb_it hc h
      refine gb_lload d_X2_commonDivisor_45 rfl ?_
      cases h
      exact gb_lret d_X2_commonDivisor_47 rfl ⟨rfl, rfl, rfl⟩
    · have h := gb_if hc h
      refine gb_lload d_X2_commonDivisor_17 rfl ?_
      refine gb_lconst 0 d_X2_commonDivisor_19 rfl ?_
      refine gb_lcmp d_X2_commonDivisor_20 ?_
      refine gb_if_eq 45 d_X2_commonDivisor_21 (by decide) (fun hc => ?_) (fun hc => ?_)
      · have h := gb_it hc h
        refine gb_lload d_X2_commonDivisor_45 rfl ?_
        cases h
        exact gb_lret d_X2_commonDivisor_47 rfl ⟨rfl, rfl, rfl⟩
      · have h := gb_if hc h
        refine gb_lload d_X2_commonDivisor_24 rfl ?_
        refine gb_lload d_X2_commonDivisor_26 rfl ?_
        obtain ⟨hn1, h⟩ := gb_nzl_e h
        refine gb_reml_ d_X2_commonDivisor_28 hn1 ?_
        refine gb_lstore [(9, .long (gb_reml y4 y6)), (4, .long y4), (6, .long y6), (8, .int y8)] d_X2_commonDivisor_29 (Nat.le_of_ble_eq_true rfl) rfl ?_
        refine gb_lload d_X2_commonDivisor_31 rfl ?_
        refine gb_lstore [(4, .long y6), (9, .long (gb_reml y4 y6)), (6, .long y6), (8, .int y8)] d_X2_commonDivisor_33 (Nat.le_of_ble_eq_true rfl) rfl ?_
        refine gb_lload d_X2_commonDivisor_35 rfl ?_
        refine gb_lstore [(6, .long (gb_reml y4 y6)), (4, .long y6), (9, .long (gb_reml y4 y6)), (8, .int y8)] d_X2_commonDivisor_37 (Nat.le_of_ble_eq_true rfl) rfl ?_
        refine gb_iinc (y8 + 1) [(8, .int (y8 + 1)), (6, .long (gb_reml y4 y6)), (4, .long y6), (9, .long (gb_reml y4 y6))] d_X2_commonDivisor_39 (Nat.le_of_ble_eq_true rfl) rfl rfl rfl ?_
        refine gb_goto 9 d_X2_commonDivisor_42 (by decide) ?_
        refine gb_pick (lv' := [(4, .long y6), (6, .long (gb_reml y4 y6)), (8, .int (y8 + 1))]) [2, 1, 0] rfl ?_
        exact ih _ y6 (gb_reml y4 y6) (y8 + 1) h
set_option maxRecDepth 100000 in
set_option maxHeartbeats 4000000 in
theorem t_X2_commonDivisor {Γ : gb_X} {sh : List gb_Sh} {x1 : Int64} {x2 : Int64} {out : gb_G × Int64} (hS : gb_S sh) {g : gb_G} (h : f_X2_commonDivisor sh g x1 x2 = some out) : gb_C Γ M_X2_commonDivisor 0 0 0 sh g [.long x1, .long x2] (gb_Rl sh out) := by
  refine gb_C.of rfl (Nat.le_of_ble_eq_true rfl) ?_
  refine gb_pick (lv' := [(0, .long x1), (2, .long x2)]) [0, 1] rfl ?_
  unfold f_X2_commonDivisor at h
  refine gb_lload_n d_X2_commonDivisor_0 rfl ?_
  refine gb_lstore [(4, .long x1), (0, .long x1), (2, .long x2)] d_X2_commonDivisor_1 (Nat.le_of_ble_eq_true rfl) rfl ?_
  refine gb_lload_n d_X2_commonDivisor_3 rfl ?_
  refine gb_lstore [(6, .long x2), (4, .long x1), (0, .long x1), (2, .long x2)] d_X2_commonDivisor_4 (Nat.le_of_ble_eq_true rfl) rfl ?_
  refine gb_iconst 0 d_X2_commonDivisor_6 rfl ?_
  refine gb_istore [(8, .int 0), (6, .long x2), (4, .long x1), (0, .long x1), (2, .long x2)] d_X2_commonDivisor_7 (Nat.le_of_ble_eq_true rfl) rfl ?_
  refine gb_pick (lv' := [(4, .long x1), (6, .long x2), (8, .int 0)]) [2, 1, 0] rfl ?_
  exact t_X2_commonDivisor_9 hS  gb_N _ x1 x2 0 h
-- X2_put
noncomputable def f_X2_put_26 (sh : List gb_Sh) (b : Nat) (g : gb_G)  : Option (gb_G) := gb_let (gb_pj g b 0 0) (fun g7 => gb_let (gb_pj g7 b 1 1) (fun g8 => some g8))
noncomputable def f_X2_put_50 (sh : List gb_Sh) (b : Nat) (g : gb_G) (y1 : Int64) (y3 : Int64) (y5 : Int64) (z0 : Int64) : Option (gb_G) := gb_nzl y5 (gb_let (gb_pj g b 0 ((z0 * y1) / y5)) (fun g10 => gb_nzl y5 (gb_let (gb_pj g10 b 1 ((z0 * y3) / y5)) (fun g12 => some g12))))
noncomputable def f_X2_put (sh : List gb_Sh) (g : gb_G) (b : Nat) (x1 : Int64) (x2 : Int64) : Option (gb_G) := gb_bd (f_J9_abs_067f4 sh g x1) (fun r1 => gb_bd (f_J9_abs_067f4 sh r1.1 x2) (fun r3 => gb_bd (f_X2_commonDivisor sh r3.1 r1.2 r3.2) (fun r5 => if (lg_cmp x2 0) = 0 then (f_X2_put_26 sh b r5.1 ) else (if (lg_cmp r5.2 0) = 0 then (f_X2_put_26 sh b r5.1 ) else (if 0 ≤ (lg_cmp x2 0) then (f_X2_put_50 sh b r5.1 x1 x2 r5.2 1) else (f_X2_put_50 sh b r5.1 x1 x2 r5.2 (-1)))))))
set_option maxRecDepth 100000 in
set_option maxHeartbeats 4000000 in
theorem t_X2_put_26 {Γ : gb_X} {sh : List gb_Sh} {b : Nat} {out : gb_G} (hS : gb_S sh) (h_b : gb_okX2 sh b) : ∀ (g : gb_G) , f_X2_put_26 sh b g  = some out → gb_J Γ M_X2_put 1 (gb_Rv sh out) 0 0 sh g 26 [(0, .ref b)] [] := by
  intro g  h
  unfold f_X2_put_26 at h
  refine gb_aload_n d_X2_put_26 rfl ?_
  refine gb_lconst 0 d_X2_put_27 rfl ?_
  refine gb_putl f_X2_7 (fun h => nomatch h) h_b rfl rfl rfl d_X2_put_28 ?_
  have h := gb_let_e h
  generalize gb_pj g b 0 0 = g7 at h ⊢
  refine gb_aload_n d_X2_put_31 rfl ?_
  refine gb_lconst 1 d_X2_put_32 rfl ?_
  refine gb_putl f_X2_13 (fun h => nomatch h) h_b rfl rfl rfl d_X2_put_33 ?_
  have h := gb_let_e h
  generalize gb_pj g7 b 1 1 = g8 at h ⊢
  cases h
  exact gb_vret d_X2_put_36 rfl ⟨rfl, rfl, rfl⟩
set_option maxRecDepth 100000 in
set_option maxHeartbeats 4000000 in
theorem t_X2_put_50 {Γ : gb_X} {sh : List gb_Sh} {b : Nat} {out : gb_G} (hS : gb_S sh) (h_b : gb_okX2 sh b) : ∀ (g : gb_G) (y1 : Int64) (y3 : Int64) (y5 : Int64) (z0 : Int64), f_X2_put_50 sh b g y1 y3 y5 z0 = some out → gb_J Γ M_X2_put 1 (gb_Rv sh out) 0 0 sh g 50 [(0, .ref b), (1, .long y1), (3, .long y3), (5, .long y5)] [.long z0] := by
  intro g y1 y3 y5 z0 h
  unfold f_X2_put_50 at h
  refine gb_lstore [(7, .long z0), (0, .ref b), (1, .long y1), (3, .long y3), (5, .long y5)] d_X2_put_50 (Nat.le_of_ble_eq_true rfl) rfl ?_
  refine gb_aload_n d_X2_put_52 rfl ?_
  refine gb_lload d_X2_put_53 rfl ?_
  refine gb_lload_n d_X2_put_55 rfl ?_
  refine gb_lmul d_X2_put_56 ?_
  refine gb_lload d_X2_put_57 rfl ?_
  obtain ⟨hn9, h⟩ := gb_nzl_e h
  refine gb_ldiv d_X2_put_59 hn9 ?_
  refine gb_putl f_X2_7 (fun h => nomatch h) h_b rfl rfl rfl d_X2_put_60 ?_
  have h := gb_let_e h
  generalize gb_pj g b 0 ((z0 * y1) / y5) = g10 at h ⊢
  refine gb_aload_n d_X2_put_63 rfl ?_
  refine gb_lload d_X2_put_64 rfl ?_
  refine gb_lload_n d_X2_put_66 rfl ?_
  refine gb_lmul d_X2_put_67 ?_
  refine gb_lload d_X2_put_68 rfl ?_
  obtain ⟨hn11, h⟩ := gb_nzl_e h
  refine gb_ldiv d_X2_put_70 hn11 ?_
  refine gb_putl f_X2_13 (fun h => nomatch h) h_b rfl rfl rfl d_X2_put_71 ?_
  have h := gb_let_e h
  generalize gb_pj g10 b 1 ((z0 * y3) / y5) = g12 at h ⊢
  cases h
  exact gb_vret d_X2_put_74 rfl ⟨rfl, rfl, rfl⟩
set_option maxRecDepth 100000 in
set_option maxHeartbeats 4000000 in
theorem t_X2_put {Γ : gb_X} {sh : List gb_Sh} {b : Nat} {x1 : Int64} {x2 : Int64} {out : gb_G} (hS : gb_S sh) (h_b : gb_okX2 sh b) {g : gb_G} (h : f_X2_put sh g b x1 x2 = some out) : gb_C Γ M_X2_put 1 0 0 sh g [.ref b, .long x1, .long x2] (gb_Rv sh out) := by
  refine gb_C.of rfl (Nat.le_of_ble_eq_true rfl) ?_
  refine gb_pick (lv' := [(0, .ref b), (1, .long x1), (3, .long x2)]) [0, 1, 2] rfl ?_
  unfold f_X2_put at h
  refine gb_lload_n d_X2_put_0 rfl ?_
  obtain ⟨r1, e2, h⟩ := gb_bd_e h
  refine gb_cSl (As := [.long x1]) (rest := []) m_X2_16 (t_J9_abs_067f4 (Γ := Γ) hS e2) (Nat.le_of_ble_eq_true rfl) rfl rfl (Nat.le_of_ble_eq_true rfl) d_X2_put_1 ?_
  refine gb_lload_n d_X2_put_4 rfl ?_
  obtain ⟨r3, e4, h⟩ := gb_bd_e h
  refine gb_cSl (As := [.long x2]) (rest := [.long r1.2]) m_X2_16 (t_J9_abs_067f4 (Γ := Γ) hS e4) (Nat.le_of_ble_eq_true rfl) rfl rfl (Nat.le_of_ble_eq_true rfl) d_X2_put_5 ?_
  obtain ⟨r5, e6, h⟩ := gb_bd_e h
  refine gb_cSl (As := [.long r1.2, .long r3.2]) (rest := []) m_X2_22 (t_X2_commonDivisor (Γ := Γ) hS e6) (Nat.le_of_ble_eq_true rfl) rfl rfl (Nat.le_of_ble_eq_true rfl) d_X2_put_8 ?_
  refine gb_lstore [(5, .long r5.2), (0, .ref b), (1, .long x1), (3, .long x2)] d_X2_put_11 (Nat.le_of_ble_eq_true rfl) rfl ?_
  refine gb_lload_n d_X2_put_13 rfl ?_
  refine gb_lconst 0 d_X2_put_14 rfl ?_
  refine gb_lcmp d_X2_put_15 ?_
  refine gb_if_eq 26 d_X2_put_16 (by decide) (fun hc => ?_) (fun hc => ?_)
  · have h := gb_it hc h
    refine gb_pick (lv' := [(0, .ref b)]) [1] rfl ?_
    exact t_X2_put_26 hS h_b  _  h
  · have h := gb_if hc h
    refine gb_lload d_X2_put_19 rfl ?_
    refine gb_lconst 0 d_X2_put_21 rfl ?_
    refine gb_lcmp d_X2_put_22 ?_
    refine gb_if_ne 37 d_X2_put_23 (by decide) (fun hc => ?_) (fun hc => ?_)
    · have h := gb_if hc h
      refine gb_lload_n d_X2_put_37 rfl ?_
      refine gb_lconst 0 d_X2_put_38 rfl ?_
      refine gb_lcmp d_X2_put_39 ?_
      refine gb_if_ge 49 d_X2_put_40 (by decide) (fun hc => ?_) (fun hc => ?_)
      · have h := gb_it hc h
        refine gb_lconst 1 d_X2_put_49 rfl ?_
        refine gb_pick (lv' := [(0, .ref b), (1, .long x1), (3, .long x2), (5, .long r5.2)]) [1, 2, 3, 0] rfl ?_
        exact t_X2_put_50 hS h_b  _ x1 x2 r5.2 1 h
      · have h := gb_if hc h
        refine gb_ldc2 (-1) k_X2_26 d_X2_put_43 ?_
        refine gb_goto 50 d_X2_put_46 (by decide) ?_
        refine gb_pick (lv' := [(0, .ref b), (1, .long x1), (3, .long x2), (5, .long r5.2)]) [1, 2, 3, 0] rfl ?_
        exact t_X2_put_50 hS h_b  _ x1 x2 r5.2 (-1) h
    · have h := gb_it hc h
      refine gb_pick (lv' := [(0, .ref b)]) [1] rfl ?_
      exact t_X2_put_26 hS h_b  _  h
-- X2_add
noncomputable def f_X2_add (sh : List gb_Sh) (g : gb_G) (b : Nat) (x1 : Int64) (x2 : Int64) : Option (gb_G) := gb_bd (f_X2_put sh g b (((g.2.1 b 0) * x2) + (x1 * (g.2.1 b 1))) ((g.2.1 b 1) * x2)) (fun r1 => some r1)
set_option maxRecDepth 100000 in
set_option maxHeartbeats 4000000 in
theorem t_X2_add {Γ : gb_X} {sh : List gb_Sh} {b : Nat} {x1 : Int64} {x2 : Int64} {out : gb_G} (hS : gb_S sh) (h_b : gb_okX2 sh b) {g : gb_G} (h : f_X2_add sh g b x1 x2 = some out) : gb_C Γ M_X2_add 2 0 0 sh g [.ref b, .long x1, .long x2] (gb_Rv sh out) := by
  refine gb_C.of rfl (Nat.le_of_ble_eq_true rfl) ?_
  refine gb_pick (lv' := [(0, .ref b), (1, .long x1), (3, .long x2)]) [0, 1, 2] rfl ?_
  unfold f_X2_add at h
  refine gb_aload_n d_X2_add_0 rfl ?_
  refine gb_aload_n d_X2_add_1 rfl ?_
  refine gb_getl f_X2_7 h_b rfl d_X2_add_2 ?_
  refine gb_lload_n d_X2_add_5 rfl ?_
  refine gb_lmul d_X2_add_6 ?_
  refine gb_lload_n d_X2_add_7 rfl ?_
  refine gb_aload_n d_X2_add_8 rfl ?_
  refine gb_getl f_X2_13 h_b rfl d_X2_add_9 ?_
  refine gb_lmul d_X2_add_12 ?_
  refine gb_ladd d_X2_add_13 ?_
  refine gb_aload_n d_X2_add_14 rfl ?_
  refine gb_getl f_X2_13 h_b rfl d_X2_add_15 ?_
  refine gb_lload_n d_X2_add_18 rfl ?_
  refine gb_lmul d_X2_add_19 ?_
  obtain ⟨r1, e2, h⟩ := gb_bd_e h
  refine gb_cVv (As := [.long (((g.2.1 b 0) * x2) + (x1 * (g.2.1 b 1))), .long ((g.2.1 b 1) * x2)]) (rest := []) m_X2_28 (t_X2_put (Γ := Γ) hS h_b e2) h_b rfl (Nat.le_of_ble_eq_true rfl) rfl rfl (Nat.le_of_ble_eq_true rfl) d_X2_add_20 ?_
  cases h
  exact gb_vret d_X2_add_23 rfl ⟨rfl, rfl, rfl⟩
-- X2_divide
noncomputable def f_X2_divide (sh : List gb_Sh) (g : gb_G) (b : Nat) (x1 : Int64) : Option (gb_G) := gb_bd (f_X2_put sh g b (g.2.1 b 0) ((g.2.1 b 1) * x1)) (fun r1 => some r1)
set_option maxRecDepth 100000 in
set_option maxHeartbeats 4000000 in
theorem t_X2_divide {Γ : gb_X} {sh : List gb_Sh} {b : Nat} {x1 : Int64} {out : gb_G} (hS : gb_S sh) (h_b : gb_okX2 sh b) {g : gb_G} (h : f_X2_divide sh g b x1 = some out) : gb_C Γ M_X2_divide 2 0 0 sh g [.ref b, .long x1] (gb_Rv sh out) := by
  refine gb_C.of rfl (Nat.le_of_ble_eq_true rfl) ?_
  refine gb_pick (lv' := [(0, .ref b), (1, .long x1)]) [0, 1] rfl ?_
  unfold f_X2_divide at h
  refine gb_aload_n d_X2_divide_0 rfl ?_
  refine gb_aload_n d_X2_divide_1 rfl ?_
  refine gb_getl f_X2_7 h_b rfl d_X2_divide_2 ?_
  refine gb_aload_n d_X2_divide_5 rfl ?_
  refine gb_getl f_X2_13 h_b rfl d_X2_divide_6 ?_
  refine gb_lload_n d_X2_divide_9 rfl ?_
  refine gb_lmul d_X2_divide_10 ?_
  obtain ⟨r1, e2, h⟩ := gb_bd_e h
  refine gb_cVv (As := [.long (g.2.1 b 0), .long ((g.2.1 b 1) * x1)]) (rest := []) m_X2_28 (t_X2_put (Γ := Γ) hS h_b e2) h_b rfl (Nat.le_of_ble_eq_true rfl) rfl rfl (Nat.le_of_ble_eq_true rfl) d_X2_divide_11 ?_
  cases h
  exact gb_vret d_X2_divide_14 rfl ⟨rfl, rfl, rfl⟩
-- X1_reckon
noncomputable def f_X1_reckon_108 (sh : List gb_Sh) (a2 : Nat) (a3 : Nat) (b4 : Nat) (K65 : gb_G → Int32 → Option (gb_G)) (g : gb_G) (y5 : Int32) : Option (gb_G) := K65 g (y5 + 1)
noncomputable def f_X1_reckon_65 (sh : List gb_Sh) (a2 : Nat) (a3 : Nat) (b4 : Nat) : Nat → gb_G → Int32 → Option (gb_G)
  | 0, _, _ => none
  | n + 1, g, y5 => if (g.1 57 1) ≤ y5 then (gb_bd (f_X1_countOfAll sh g) (fun r13 => gb_bd (f_X2_divide sh r13.1 b4 r13.2.toInt64) (fun r15 => some r15))) else (gb_ck y5 8 (if (g.1 60 y5.toNatClampNeg) ≤ 0 then (f_X1_reckon_108 sh a2 a3 b4 (fun w w0 => f_X1_reckon_65 sh a2 a3 b4 n w w0) g y5) else (gb_ck y5 8 (gb_ck y5 8 (gb_ck y5 8 (gb_bd (f_X2_add sh g b4 (((g.1 a2 y5.toNatClampNeg).toInt64) * ((g.1 60 y5.toNatClampNeg).toInt64)) ((g.1 a3 y5.toNatClampNeg).toInt64)) (fun r21 => f_X1_reckon_108 sh a2 a3 b4 (fun w w0 => f_X1_reckon_65 sh a2 a3 b4 n w w0) r21 y5)))))))
noncomputable def f_X1_reckon_140 (sh : List gb_Sh) (a2 : Nat) (a3 : Nat) (b4 : Nat) (g : gb_G) (z0 : Int32) : Option (gb_G) := gb_bd (f_X1_outermost sh g a2 a3 z0) (fun r23 => gb_bd (f_X10_within sh r23.1 r23.2 0 ((r23.1.1 57 1) - 1)) (fun r25 => if r25.2 = 0 then (some r25.1) else (gb_ck r23.2 8 (gb_ck r23.2 8 (gb_bd (f_X2_put sh r25.1 b4 ((r25.1.1 a2 r23.2.toNatClampNeg).toInt64) ((r25.1.1 a3 r23.2.toNatClampNeg).toInt64)) (fun r29 => some r29))))))
noncomputable def f_X1_reckon (sh : List gb_Sh) (g : gb_G) (x1 : Int32) (a2 : Nat) (a3 : Nat) (b4 : Nat) : Option (gb_G) := gb_bd (f_X2_put sh g b4 0 1) (fun r1 => gb_bd (f_X1_countOfAll sh r1) (fun r3 => if r3.2 = 0 then (some r3.1) else (if x1 = 0 then (gb_bd (f_X1_weighed sh r3.1 a2) (fun r6 => gb_bd (f_X1_weighed sh r6.1 a3) (fun r8 => gb_bd (f_X2_put sh r8.1 b4 r6.2 r8.2) (fun r10 => some r10)))) else if x1 = 1 then (f_X1_reckon_65 sh a2 a3 b4 gb_N r3.1 0) else (if x1 = 2 then (f_X1_reckon_140 sh a2 a3 b4 r3.1 1) else (f_X1_reckon_140 sh a2 a3 b4 r3.1 (-1))))))
set_option maxRecDepth 100000 in
set_option maxHeartbeats 4000000 in
theorem t_X1_reckon_108 {Γ : gb_X} {sh : List gb_Sh} {a2 : Nat} {a3 : Nat} {b4 : Nat} {out : gb_G} (hS : gb_S sh) (h_a2 : sh[a2]? = some (.inl (0, 8))) (h_a3 : sh[a3]? = some (.inl (0, 8))) (h_b4 : gb_okX2 sh b4) {K65 : gb_G → Int32 → Option (gb_G)} (hK65 : ∀ (g : gb_G) (y5 : Int32), K65 g y5 = some out → gb_J Γ M_X1_reckon 3 (gb_Rv sh out) 0 0 sh g 65 [(0, .ref 57), (2, .ref a2), (3, .ref a3), (4, .ref b4), (5, .int y5)] []) : ∀ (g : gb_G) (y5 : Int32), f_X1_reckon_108 sh a2 a3 b4 K65 g y5 = some out → gb_J Γ M_X1_reckon 3 (gb_Rv sh out) 0 0 sh g 108 [(0, .ref 57), (2, .ref a2), (3, .ref a3), (4, .ref b4), (5, .int y5)] [] := by
  intro g y5 h
  unfold f_X1_reckon_108 at h
  refine gb_iinc (y5 + 1) [(5, .int (y5 + 1)), (0, .ref 57), (2, .ref a2), (3, .ref a3), (4, .ref b4)] d_X1_reckon_108 (Nat.le_of_ble_eq_true rfl) rfl rfl rfl ?_
  refine gb_goto 65 d_X1_reckon_111 (by decide) ?_
  refine gb_pick (lv' := [(0, .ref 57), (2, .ref a2), (3, .ref a3), (4, .ref b4), (5, .int (y5 + 1))]) [1, 2, 3, 4, 0] rfl ?_
  exact hK65 _ (y5 + 1) h
set_option maxRecDepth 100000 in
set_option maxHeartbeats 4000000 in
theorem t_X1_reckon_65 {Γ : gb_X} {sh : List gb_Sh} {a2 : Nat} {a3 : Nat} {b4 : Nat} {out : gb_G} (hS : gb_S sh) (h_a2 : sh[a2]? = some (.inl (0, 8))) (h_a3 : sh[a3]? = some (.inl (0, 8))) (h_b4 : gb_okX2 sh b4) : ∀ (n : Nat) (g : gb_G) (y5 : Int32), f_X1_reckon_65 sh a2 a3 b4 n g y5 = some out → gb_J Γ M_X1_reckon 3 (gb_Rv sh out) 0 0 sh g 65 [(0, .ref 57), (2, .ref a2), (3, .ref a3), (4, .ref b4), (5, .int y5)] [] := by
  intro n
  induction n with
  | zero => intro g y5 h; cases h
  | succ n ih =>
    intro g y5 h
    rw [f_X1_reckon_65] at h
    refine gb_iload d_X1_reckon_65 rfl ?_
    refine gb_aload_n d_X1_reckon_67 rfl ?_
    refine gb_geti f_X1_9 (hS 57 _ rfl) rfl d_X1_reckon_68 ?_
    refine gb_icmp_ge 114 d_X1_reckon_71 (by decide) (fun hc => ?_) (fun hc => ?_)
    · have h := gb_it hc h
      refine gb_aload d_X1_reckon_114 rfl ?_
      refine gb_aload_n d_X1_reckon_116 rfl ?_
      obtain ⟨r13, e14, h⟩ := gb_bd_e h
      refine gb_cVi (As := []) (rest := [.ref b4]) m_X1_73 (t_X1_countOfAll (Γ := Γ) hS e14) (hS 57 _ rfl) rfl (Nat.le_of_ble_eq_true rfl) rfl rfl (Nat.le_of_ble_eq_true rfl) d_X1_reckon_117 ?_
      refine gb_i2l d_X1_reckon_120 ?_
      obtain ⟨r15, e16, h⟩ := gb_bd_e h
      refine gb_cVv (As := [.long r13.2.toInt64]) (rest := []) m_X1_84 (t_X2_divide (Γ := Γ) hS h_b4 e16) h_b4 rfl (Nat.le_of_ble_eq_true rfl) rfl rfl (Nat.le_of_ble_eq_true rfl) d_X1_reckon_121 ?_
      refine gb_goto 175 d_X1_reckon_124 (by decide) ?_
      cases h
      exact gb_vret d_X1_reckon_175 rfl ⟨rfl, rfl, rfl⟩
    · have h := gb_if hc h
      refine gb_aload_n d_X1_reckon_74 rfl ?_
      refine gb_getr (r := 60) f_X1_22 (hS 57 _ rfl) rfl d_X1_reckon_75 ?_
      refine gb_iload d_X1_reckon_78 rfl ?_
      obtain ⟨hi17, h⟩ := gb_ck_e h
      refine gb_iald_ y5.toNatClampNeg rfl (hS 60 _ rfl) hi17 d_X1_reckon_80 ?_
      refine gb_if_le 108 d_X1_reckon_81 (by decide) (fun hc => ?_) (fun hc => ?_)
      · have h := gb_it hc h
        exact t_X1_reckon_108 hS h_a2 h_a3 h_b4 (fun w w0 hw => ih w w0 hw) _ y5 h
      · have h := gb_if hc h
        refine gb_aload d_X1_reckon_84 rfl ?_
        refine gb_aload_n d_X1_reckon_86 rfl ?_
        refine gb_iload d_X1_reckon_87 rfl ?_
        obtain ⟨hi18, h⟩ := gb_ck_e h
        refine gb_iald_ y5.toNatClampNeg rfl h_a2 hi18 d_X1_reckon_89 ?_
        refine gb_i2l d_X1_reckon_90 ?_
        refine gb_aload_n d_X1_reckon_91 rfl ?_
        refine gb_getr (r := 60) f_X1_22 (hS 57 _ rfl) rfl d_X1_reckon_92 ?_
        refine gb_iload d_X1_reckon_95 rfl ?_
        obtain ⟨hi19, h⟩ := gb_ck_e h
        refine gb_iald_ y5.toNatClampNeg rfl (hS 60 _ rfl) hi19 d_X1_reckon_97 ?_
        refine gb_i2l d_X1_reckon_98 ?_
        refine gb_lmul d_X1_reckon_99 ?_
        refine gb_aload_n d_X1_reckon_100 rfl ?_
        refine gb_iload d_X1_reckon_101 rfl ?_
        obtain ⟨hi20, h⟩ := gb_ck_e h
        refine gb_iald_ y5.toNatClampNeg rfl h_a3 hi20 d_X1_reckon_103 ?_
        refine gb_i2l d_X1_reckon_104 ?_
        obtain ⟨r21, e22, h⟩ := gb_bd_e h
        refine gb_cVv (As := [.long (((g.1 a2 y5.toNatClampNeg).toInt64) * ((g.1 60 y5.toNatClampNeg).toInt64)), .long ((g.1 a3 y5.toNatClampNeg).toInt64)]) (rest := []) m_X1_81 (t_X2_add (Γ := Γ) hS h_b4 e22) h_b4 rfl (Nat.le_of_ble_eq_true rfl) rfl rfl (Nat.le_of_ble_eq_true rfl) d_X1_reckon_105 ?_
        exact t_X1_reckon_108 hS h_a2 h_a3 h_b4 (fun w w0 hw => ih w w0 hw) _ y5 h
set_option maxRecDepth 100000 in
set_option maxHeartbeats 4000000 in
theorem t_X1_reckon_140 {Γ : gb_X} {sh : List gb_Sh} {a2 : Nat} {a3 : Nat} {b4 : Nat} {out : gb_G} (hS : gb_S sh) (h_a2 : sh[a2]? = some (.inl (0, 8))) (h_a3 : sh[a3]? = some (.inl (0, 8))) (h_b4 : gb_okX2 sh b4) : ∀ (g : gb_G) (z0 : Int32), f_X1_reckon_140 sh a2 a3 b4 g z0 = some out → gb_J Γ M_X1_reckon 3 (gb_Rv sh out) 0 0 sh g 140 [(0, .ref 57), (2, .ref a2), (3, .ref a3), (4, .ref b4)] [.int z0, .ref a3, .ref a2, .ref 57] := by
  intro g z0 h
  unfold f_X1_reckon_140 at h
  obtain ⟨r23, e24, h⟩ := gb_bd_e h
  refine gb_cVi (As := [.ref a2, .ref a3, .int z0]) (rest := []) m_X1_88 (t_X1_outermost (Γ := Γ) hS h_a2 h_a3 e24) (hS 57 _ rfl) rfl (Nat.le_of_ble_eq_true rfl) rfl rfl (Nat.le_of_ble_eq_true rfl) d_X1_reckon_140 ?_
  refine gb_istore [(5, .int r23.2), (0, .ref 57), (2, .ref a2), (3, .ref a3), (4, .ref b4)] d_X1_reckon_143 (Nat.le_of_ble_eq_true rfl) rfl ?_
  refine gb_iload d_X1_reckon_145 rfl ?_
  refine gb_iconst 0 d_X1_reckon_147 rfl ?_
  refine gb_aload_n d_X1_reckon_148 rfl ?_
  refine gb_geti f_X1_9 (hS 57 _ rfl) rfl d_X1_reckon_149 ?_
  refine gb_iconst 1 d_X1_reckon_152 rfl ?_
  refine gb_isub d_X1_reckon_153 ?_
  obtain ⟨r25, e26, h⟩ := gb_bd_e h
  refine gb_cSNi (As := [.int r23.2, .int 0, .int ((r23.1.1 57 1) - 1)]) (rest := []) m_X1_92 (t_X10_within (Γ := Γ) hS e26) (Nat.le_of_ble_eq_true rfl) rfl rfl (Nat.le_of_ble_eq_true rfl) d_X1_reckon_154 ?_
  refine gb_if_eq 175 d_X1_reckon_157 (by decide) (fun hc => ?_) (fun hc => ?_)
  · have h := gb_it hc h
    cases h
    exact gb_vret d_X1_reckon_175 rfl ⟨rfl, rfl, rfl⟩
  · have h := gb_if hc h
    refine gb_aload d_X1_reckon_160 rfl ?_
    refine gb_aload_n d_X1_reckon_162 rfl ?_
    refine gb_iload d_X1_reckon_163 rfl ?_
    obtain ⟨hi27, h⟩ := gb_ck_e h
    refine gb_iald_ r23.2.toNatClampNeg rfl h_a2 hi27 d_X1_reckon_165 ?_
    refine gb_i2l d_X1_reckon_166 ?_
    refine gb_aload_n d_X1_reckon_167 rfl ?_
    refine gb_iload d_X1_reckon_168 rfl ?_
    obtain ⟨hi28, h⟩ := gb_ck_e h
    refine gb_iald_ r23.2.toNatClampNeg rfl h_a3 hi28 d_X1_reckon_170 ?_
    refine gb_i2l d_X1_reckon_171 ?_
    obtain ⟨r29, e30, h⟩ := gb_bd_e h
    refine gb_cVv (As := [.long ((r25.1.1 a2 r23.2.toNatClampNeg).toInt64), .long ((r25.1.1 a3 r23.2.toNatClampNeg).toInt64)]) (rest := []) m_X1_69 (t_X2_put (Γ := Γ) hS h_b4 e30) h_b4 rfl (Nat.le_of_ble_eq_true rfl) rfl rfl (Nat.le_of_ble_eq_true rfl) d_X1_reckon_172 ?_
    cases h
    exact gb_vret d_X1_reckon_175 rfl ⟨rfl, rfl, rfl⟩
set_option maxRecDepth 100000 in
set_option maxHeartbeats 4000000 in
theorem t_X1_reckon {Γ : gb_X} {sh : List gb_Sh} {x1 : Int32} {a2 : Nat} {a3 : Nat} {b4 : Nat} {out : gb_G} (hS : gb_S sh) (h_a2 : sh[a2]? = some (.inl (0, 8))) (h_a3 : sh[a3]? = some (.inl (0, 8))) (h_b4 : gb_okX2 sh b4) {g : gb_G} (h : f_X1_reckon sh g x1 a2 a3 b4 = some out) : gb_C Γ M_X1_reckon 3 0 0 sh g [.ref 57, .int x1, .ref a2, .ref a3, .ref b4] (gb_Rv sh out) := by
  refine gb_C.of rfl (Nat.le_of_ble_eq_true rfl) ?_
  refine gb_pick (lv' := [(0, .ref 57), (1, .int x1), (2, .ref a2), (3, .ref a3), (4, .ref b4)]) [0, 1, 2, 3, 4] rfl ?_
  unfold f_X1_reckon at h
  refine gb_aload d_X1_reckon_0 rfl ?_
  refine gb_lconst 0 d_X1_reckon_2 rfl ?_
  refine gb_lconst 1 d_X1_reckon_3 rfl ?_
  obtain ⟨r1, e2, h⟩ := gb_bd_e h
  refine gb_cVv (As := [.long 0, .long 1]) (rest := []) m_X1_69 (t_X2_put (Γ := Γ) hS h_b4 e2) h_b4 rfl (Nat.le_of_ble_eq_true rfl) rfl rfl (Nat.le_of_ble_eq_true rfl) d_X1_reckon_4 ?_
  refine gb_aload_n d_X1_reckon_7 rfl ?_
  obtain ⟨r3, e4, h⟩ := gb_bd_e h
  refine gb_cVi (As := []) (rest := []) m_X1_73 (t_X1_countOfAll (Γ := Γ) hS e4) (hS 57 _ rfl) rfl (Nat.le_of_ble_eq_true rfl) rfl rfl (Nat.le_of_ble_eq_true rfl) d_X1_reckon_8 ?_
  refine gb_if_ne 15 d_X1_reckon_11 (by decide) (fun hc => ?_) (fun hc => ?_)
  · have h := gb_if hc h
    refine gb_iload_n d_X1_reckon_15 rfl ?_
    by_cases hc5 : x1 = 0
    · have h := gb_it hc5 h
      refine gb_lkI (off := 28) 44 hc5 d_X1_reckon_16 (by decide) (by decide) (by decide) ?_
      refine gb_aload d_X1_reckon_44 rfl ?_
      refine gb_aload_n d_X1_reckon_46 rfl ?_
      refine gb_aload_n d_X1_reckon_47 rfl ?_
      obtain ⟨r6, e7, h⟩ := gb_bd_e h
      refine gb_cVl (As := [.ref a2]) (rest := [.ref b4]) m_X1_77 (t_X1_weighed (Γ := Γ) hS h_a2 e7) (hS 57 _ rfl) rfl (Nat.le_of_ble_eq_true rfl) rfl rfl (Nat.le_of_ble_eq_true rfl) d_X1_reckon_48 ?_
      refine gb_aload_n d_X1_reckon_51 rfl ?_
      refine gb_aload_n d_X1_reckon_52 rfl ?_
      obtain ⟨r8, e9, h⟩ := gb_bd_e h
      refine gb_cVl (As := [.ref a3]) (rest := [.long r6.2, .ref b4]) m_X1_77 (t_X1_weighed (Γ := Γ) hS h_a3 e9) (hS 57 _ rfl) rfl (Nat.le_of_ble_eq_true rfl) rfl rfl (Nat.le_of_ble_eq_true rfl) d_X1_reckon_53 ?_
      obtain ⟨r10, e11, h⟩ := gb_bd_e h
      refine gb_cVv (As := [.long r6.2, .long r8.2]) (rest := []) m_X1_69 (t_X2_put (Γ := Γ) hS h_b4 e11) h_b4 rfl (Nat.le_of_ble_eq_true rfl) rfl rfl (Nat.le_of_ble_eq_true rfl) d_X1_reckon_56 ?_
      refine gb_goto 175 d_X1_reckon_59 (by decide) ?_
      cases h
      exact gb_vret d_X1_reckon_175 rfl ⟨rfl, rfl, rfl⟩
    replace h := gb_if hc5 h
    by_cases hc12 : x1 = 1
    · have h := gb_it hc12 h
      refine gb_lkI (off := 46) 62 hc12 d_X1_reckon_16 (by decide) (by decide) (by decide) ?_
      refine gb_iconst 0 d_X1_reckon_62 rfl ?_
      refine gb_istore [(5, .int 0), (0, .ref 57), (1, .int x1), (2, .ref a2), (3, .ref a3), (4, .ref b4)] d_X1_reckon_63 (Nat.le_of_ble_eq_true rfl) rfl ?_
      refine gb_pick (lv' := [(0, .ref 57), (2, .ref a2), (3, .ref a3), (4, .ref b4), (5, .int 0)]) [1, 3, 4, 5, 0] rfl ?_
      exact t_X1_reckon_65 hS h_a2 h_a3 h_b4  gb_N _ 0 h
    replace h := gb_if hc12 h
    refine gb_lookup (off := 111) 127 d_X1_reckon_16 (by decide) (by show Op.lookupswitch.offset [(0, 28), (1, 46)] 111 _ = 111; rw [Op.lookupswitch.offset_cons, if_neg (gb_ni (k := 0) (by decide) hc5), Op.lookupswitch.offset_cons, if_neg (gb_ni (k := 1) (by decide) hc12), Op.lookupswitch.offset_nil]) (by decide) ?_
    refine gb_aload_n d_X1_reckon_127 rfl ?_
    refine gb_aload_n d_X1_reckon_128 rfl ?_
    refine gb_aload_n d_X1_reckon_129 rfl ?_
    refine gb_iload_n d_X1_reckon_130 rfl ?_
    refine gb_iconst 2 d_X1_reckon_131 rfl ?_
    refine gb_icmp_ne 139 d_X1_reckon_132 (by decide) (fun hc => ?_) (fun hc => ?_)
    · have h := gb_if hc h
      refine gb_iconst (-1) d_X1_reckon_139 rfl ?_
      refine gb_pick (lv' := [(0, .ref 57), (2, .ref a2), (3, .ref a3), (4, .ref b4)]) [0, 2, 3, 4] rfl ?_
      exact t_X1_reckon_140 hS h_a2 h_a3 h_b4  _ (-1) h
    · have h := gb_it hc h
      refine gb_iconst 1 d_X1_reckon_135 rfl ?_
      refine gb_goto 140 d_X1_reckon_136 (by decide) ?_
      refine gb_pick (lv' := [(0, .ref 57), (2, .ref a2), (3, .ref a3), (4, .ref b4)]) [0, 2, 3, 4] rfl ?_
      exact t_X1_reckon_140 hS h_a2 h_a3 h_b4  _ 1 h
  · have h := gb_it hc h
    cases h
    exact gb_vret d_X1_reckon_14 rfl ⟨rfl, rfl, rfl⟩
-- X1_byRule
noncomputable def f_X1_byRule (sh : List gb_Sh) (g : gb_G) (x1 : Int32) : Option (gb_G) := gb_bd (f_X1_reckon sh g x1 59 58 61) (fun r1 => some r1)
set_option maxRecDepth 100000 in
set_option maxHeartbeats 4000000 in
theorem t_X1_byRule {Γ : gb_X} {sh : List gb_Sh} {x1 : Int32} {out : gb_G} (hS : gb_S sh) {g : gb_G} (h : f_X1_byRule sh g x1 = some out) : gb_C Γ M_X1_byRule 4 0 0 sh g [.ref 57, .int x1] (gb_Rr sh 61 out) := by
  refine gb_C.of rfl (Nat.le_of_ble_eq_true rfl) ?_
  refine gb_pick (lv' := [(0, .ref 57), (1, .int x1)]) [0, 1] rfl ?_
  unfold f_X1_byRule at h
  refine gb_aload_n d_X1_byRule_0 rfl ?_
  refine gb_iload_n d_X1_byRule_1 rfl ?_
  refine gb_aload_n d_X1_byRule_2 rfl ?_
  refine gb_getr (r := 59) f_X1_19 (hS 57 _ rfl) rfl d_X1_byRule_3 ?_
  refine gb_aload_n d_X1_byRule_6 rfl ?_
  refine gb_getr (r := 58) f_X1_15 (hS 57 _ rfl) rfl d_X1_byRule_7 ?_
  refine gb_aload_n d_X1_byRule_10 rfl ?_
  refine gb_getr (r := 61) f_X1_28 (hS 57 _ rfl) rfl d_X1_byRule_11 ?_
  obtain ⟨r1, e2, h⟩ := gb_bd_e h
  refine gb_cVv (As := [.int x1, .ref 59, .ref 58, .ref 61]) (rest := []) m_X1_61 (t_X1_reckon (Γ := Γ) hS (hS 59 _ rfl) (hS 58 _ rfl) (ok_X2_61 hS) e2) (hS 57 _ rfl) rfl (Nat.le_of_ble_eq_true rfl) rfl rfl (Nat.le_of_ble_eq_true rfl) d_X1_byRule_14 ?_
  refine gb_aload_n d_X1_byRule_17 rfl ?_
  refine gb_getr (r := 61) f_X1_28 (hS 57 _ rfl) rfl d_X1_byRule_18 ?_
  cases h
  exact gb_aret d_X1_byRule_21 rfl (Or.inl ⟨_, rfl⟩) (Or.inr ⟨_, rfl⟩) ⟨rfl, rfl, rfl⟩
-- X2_multiply
noncomputable def f_X2_multiply (sh : List gb_Sh) (g : gb_G) (b : Nat) (b1 : Nat) : Option (gb_G) := gb_bd (f_X2_put sh g b ((g.2.1 b 0) * (g.2.1 b1 0)) ((g.2.1 b 1) * (g.2.1 b1 1))) (fun r1 => some r1)
set_option maxRecDepth 100000 in
set_option maxHeartbeats 4000000 in
theorem t_X2_multiply {Γ : gb_X} {sh : List gb_Sh} {b : Nat} {b1 : Nat} {out : gb_G} (hS : gb_S sh) (h_b : gb_okX2 sh b) (h_b1 : gb_okX2 sh b1) {g : gb_G} (h : f_X2_multiply sh g b b1 = some out) : gb_C Γ M_X2_multiply 2 0 0 sh g [.ref b, .ref b1] (gb_Rv sh out) := by
  refine gb_C.of rfl (Nat.le_of_ble_eq_true rfl) ?_
  refine gb_pick (lv' := [(0, .ref b), (1, .ref b1)]) [0, 1] rfl ?_
  unfold f_X2_multiply at h
  refine gb_aload_n d_X2_multiply_0 rfl ?_
  refine gb_aload_n d_X2_multiply_1 rfl ?_
  refine gb_getl f_X2_7 h_b rfl d_X2_multiply_2 ?_
  refine gb_aload_n d_X2_multiply_5 rfl ?_
  refine gb_getl f_X2_7 h_b1 rfl d_X2_multiply_6 ?_
  refine gb_lmul d_X2_multiply_9 ?_
  refine gb_aload_n d_X2_multiply_10 rfl ?_
  refine gb_getl f_X2_13 h_b rfl d_X2_multiply_11 ?_
  refine gb_aload_n d_X2_multiply_14 rfl ?_
  refine gb_getl f_X2_13 h_b1 rfl d_X2_multiply_15 ?_
  refine gb_lmul d_X2_multiply_18 ?_
  obtain ⟨r1, e2, h⟩ := gb_bd_e h
  refine gb_cVv (As := [.long ((g.2.1 b 0) * (g.2.1 b1 0)), .long ((g.2.1 b 1) * (g.2.1 b1 1))]) (rest := []) m_X2_28 (t_X2_put (Γ := Γ) hS h_b e2) h_b rfl (Nat.le_of_ble_eq_true rfl) rfl rfl (Nat.le_of_ble_eq_true rfl) d_X2_multiply_19 ?_
  cases h
  exact gb_vret d_X2_multiply_22 rfl ⟨rfl, rfl, rfl⟩
-- X1_turnedByRule
noncomputable def f_X1_turnedByRule (sh : List gb_Sh) (g : gb_G) (x1 : Int32) : Option (gb_G) := gb_bd (f_X1_reckon sh g x1 59 58 61) (fun r1 => gb_bd (f_X1_reckon sh r1 x1 58 59 62) (fun r3 => gb_bd (f_X2_multiply sh r3 61 62) (fun r5 => some r5)))
set_option maxRecDepth 100000 in
set_option maxHeartbeats 4000000 in
theorem t_X1_turnedByRule {Γ : gb_X} {sh : List gb_Sh} {x1 : Int32} {out : gb_G} (hS : gb_S sh) {g : gb_G} (h : f_X1_turnedByRule sh g x1 = some out) : gb_C Γ M_X1_turnedByRule 4 0 0 sh g [.ref 57, .int x1] (gb_Rr sh 61 out) := by
  refine gb_C.of rfl (Nat.le_of_ble_eq_true rfl) ?_
  refine gb_pick (lv' := [(0, .ref 57), (1, .int x1)]) [0, 1] rfl ?_
  unfold f_X1_turnedByRule at h
  refine gb_aload_n d_X1_turnedByRule_0 rfl ?_
  refine gb_iload_n d_X1_turnedByRule_1 rfl ?_
  refine gb_aload_n d_X1_turnedByRule_2 rfl ?_
  refine gb_getr (r := 59) f_X1_19 (hS 57 _ rfl) rfl d_X1_turnedByRule_3 ?_
  refine gb_aload_n d_X1_turnedByRule_6 rfl ?_
  refine gb_getr (r := 58) f_X1_15 (hS 57 _ rfl) rfl d_X1_turnedByRule_7 ?_
  refine gb_aload_n d_X1_turnedByRule_10 rfl ?_
  refine gb_getr (r := 61) f_X1_28 (hS 57 _ rfl) rfl d_X1_turnedByRule_11 ?_
  obtain ⟨r1, e2, h⟩ := gb_bd_e h
  refine gb_cVv (As := [.int x1, .ref 59, .ref 58, .ref 61]) (rest := []) m_X1_61 (t_X1_reckon (Γ := Γ) hS (hS 59 _ rfl) (hS 58 _ rfl) (ok_X2_61 hS) e2) (hS 57 _ rfl) rfl (Nat.le_of_ble_eq_true rfl) rfl rfl (Nat.le_of_ble_eq_true rfl) d_X1_turnedByRule_14 ?_
  refine gb_aload_n d_X1_turnedByRule_17 rfl ?_
  refine gb_iload_n d_X1_turnedByRule_18 rfl ?_
  refine gb_aload_n d_X1_turnedByRule_19 rfl ?_
  refine gb_getr (r := 58) f_X1_15 (hS 57 _ rfl) rfl d_X1_turnedByRule_20 ?_
  refine gb_aload_n d_X1_turnedByRule_23 rfl ?_
  refine gb_getr (r := 59) f_X1_19 (hS 57 _ rfl) rfl d_X1_turnedByRule_24 ?_
  refine gb_aload_n d_X1_turnedByRule_27 rfl ?_
  refine gb_getr (r := 62) f_X1_32 (hS 57 _ rfl) rfl d_X1_turnedByRule_28 ?_
  obtain ⟨r3, e4, h⟩ := gb_bd_e h
  refine gb_cVv (As := [.int x1, .ref 58, .ref 59, .ref 62]) (rest := []) m_X1_61 (t_X1_reckon (Γ := Γ) hS (hS 58 _ rfl) (hS 59 _ rfl) (ok_X2_62 hS) e4) (hS 57 _ rfl) rfl (Nat.le_of_ble_eq_true rfl) rfl rfl (Nat.le_of_ble_eq_true rfl) d_X1_turnedByRule_31 ?_
  refine gb_aload_n d_X1_turnedByRule_34 rfl ?_
  refine gb_getr (r := 61) f_X1_28 (hS 57 _ rfl) rfl d_X1_turnedByRule_35 ?_
  refine gb_aload_n d_X1_turnedByRule_38 rfl ?_
  refine gb_getr (r := 62) f_X1_32 (hS 57 _ rfl) rfl d_X1_turnedByRule_39 ?_
  obtain ⟨r5, e6, h⟩ := gb_bd_e h
  refine gb_cVv (As := [.ref 62]) (rest := []) m_X1_65 (t_X2_multiply (Γ := Γ) hS (ok_X2_61 hS) (ok_X2_62 hS) e6) (ok_X2_61 hS) rfl (Nat.le_of_ble_eq_true rfl) rfl rfl (Nat.le_of_ble_eq_true rfl) d_X1_turnedByRule_42 ?_
  refine gb_aload_n d_X1_turnedByRule_45 rfl ?_
  refine gb_getr (r := 61) f_X1_28 (hS 57 _ rfl) rfl d_X1_turnedByRule_46 ?_
  cases h
  exact gb_aret d_X1_turnedByRule_49 rfl (Or.inl ⟨_, rfl⟩) (Or.inr ⟨_, rfl⟩) ⟨rfl, rfl, rfl⟩
-- X1_cutTimes
noncomputable def f_X1_cutTimes (sh : List gb_Sh) (g : gb_G) (x1 : Int32) : Option (gb_G × Int32) := gb_bd (f_X1_weighed sh g 58) (fun r1 => if (lg_cmp r1.2 0) = 0 then (some (r1.1, 0)) else (gb_bd (f_X1_weighed sh r1.1 59) (fun r3 => gb_nzl r1.2 (some (r3.1, ((x1.toInt64 * r3.2) / r1.2).toInt32)))))
set_option maxRecDepth 100000 in
set_option maxHeartbeats 4000000 in
theorem t_X1_cutTimes {Γ : gb_X} {sh : List gb_Sh} {x1 : Int32} {out : gb_G × Int32} (hS : gb_S sh) {g : gb_G} (h : f_X1_cutTimes sh g x1 = some out) : gb_C Γ M_X1_cutTimes 1 0 0 sh g [.ref 57, .int x1] (gb_Ri sh out) := by
  refine gb_C.of rfl (Nat.le_of_ble_eq_true rfl) ?_
  refine gb_pick (lv' := [(0, .ref 57), (1, .int x1)]) [0, 1] rfl ?_
  unfold f_X1_cutTimes at h
  refine gb_aload_n d_X1_cutTimes_0 rfl ?_
  refine gb_aload_n d_X1_cutTimes_1 rfl ?_
  refine gb_getr (r := 58) f_X1_15 (hS 57 _ rfl) rfl d_X1_cutTimes_2 ?_
  obtain ⟨r1, e2, h⟩ := gb_bd_e h
  refine gb_cVl (As := [.ref 58]) (rest := []) m_X1_77 (t_X1_weighed (Γ := Γ) hS (hS 58 _ rfl) e2) (hS 57 _ rfl) rfl (Nat.le_of_ble_eq_true rfl) rfl rfl (Nat.le_of_ble_eq_true rfl) d_X1_cutTimes_5 ?_
  refine gb_lstore_n [(2, .long r1.2), (0, .ref 57), (1, .int x1)] d_X1_cutTimes_8 (Nat.le_of_ble_eq_true rfl) rfl ?_
  refine gb_lload_n d_X1_cutTimes_9 rfl ?_
  refine gb_lconst 0 d_X1_cutTimes_10 rfl ?_
  refine gb_lcmp d_X1_cutTimes_11 ?_
  refine gb_if_ne 19 d_X1_cutTimes_12 (by decide) (fun hc => ?_) (fun hc => ?_)
  · have h := gb_if hc h
    refine gb_iload_n d_X1_cutTimes_19 rfl ?_
    refine gb_i2l d_X1_cutTimes_20 ?_
    refine gb_aload_n d_X1_cutTimes_21 rfl ?_
    refine gb_aload_n d_X1_cutTimes_22 rfl ?_
    refine gb_getr (r := 59) f_X1_19 (hS 57 _ rfl) rfl d_X1_cutTimes_23 ?_
    obtain ⟨r3, e4, h⟩ := gb_bd_e h
    refine gb_cVl (As := [.ref 59]) (rest := [.long x1.toInt64]) m_X1_77 (t_X1_weighed (Γ := Γ) hS (hS 59 _ rfl) e4) (hS 57 _ rfl) rfl (Nat.le_of_ble_eq_true rfl) rfl rfl (Nat.le_of_ble_eq_true rfl) d_X1_cutTimes_26 ?_
    refine gb_lmul d_X1_cutTimes_29 ?_
    refine gb_lload_n d_X1_cutTimes_30 rfl ?_
    obtain ⟨hn5, h⟩ := gb_nzl_e h
    refine gb_ldiv d_X1_cutTimes_31 hn5 ?_
    refine gb_l2i d_X1_cutTimes_32 ?_
    cases h
    exact gb_iret d_X1_cutTimes_33 rfl ⟨rfl, rfl, rfl⟩
  · have h := gb_it hc h
    refine gb_iconst 0 d_X1_cutTimes_15 rfl ?_
    refine gb_goto 33 d_X1_cutTimes_16 (by decide) ?_
    cases h
    exact gb_iret d_X1_cutTimes_33 rfl ⟨rfl, rfl, rfl⟩
-- X1_hundredths
noncomputable def f_X1_hundredths (sh : List gb_Sh) (g : gb_G) : Option (gb_G × Int32) := gb_bd (f_X1_countOfAll sh g) (fun r1 => if r1.2 = 0 then (some (r1.1, 100)) else (gb_bd (f_X1_cutTimes sh r1.1 100) (fun r3 => some (r3.1, r3.2))))
set_option maxRecDepth 100000 in
set_option maxHeartbeats 4000000 in
theorem t_X1_hundredths {Γ : gb_X} {sh : List gb_Sh} {out : gb_G × Int32} (hS : gb_S sh) {g : gb_G} (h : f_X1_hundredths sh g = some out) : gb_C Γ M_X1_hundredths 2 0 0 sh g [.ref 57] (gb_Ri sh out) := by
  refine gb_C.of rfl (Nat.le_of_ble_eq_true rfl) ?_
  refine gb_pick (lv' := [(0, .ref 57)]) [0] rfl ?_
  unfold f_X1_hundredths at h
  refine gb_aload_n d_X1_hundredths_0 rfl ?_
  obtain ⟨r1, e2, h⟩ := gb_bd_e h
  refine gb_cVi (As := []) (rest := []) m_X1_73 (t_X1_countOfAll (Γ := Γ) hS e2) (hS 57 _ rfl) rfl (Nat.le_of_ble_eq_true rfl) rfl rfl (Nat.le_of_ble_eq_true rfl) d_X1_hundredths_1 ?_
  refine gb_if_ne 12 d_X1_hundredths_4 (by decide) (fun hc => ?_) (fun hc => ?_)
  · have h := gb_if hc h
    refine gb_aload_n d_X1_hundredths_12 rfl ?_
    refine gb_bipush 100 d_X1_hundredths_13 rfl ?_
    obtain ⟨r3, e4, h⟩ := gb_bd_e h
    refine gb_cVi (As := [.int 100]) (rest := []) m_X1_96 (t_X1_cutTimes (Γ := Γ) hS e4) (hS 57 _ rfl) rfl (Nat.le_of_ble_eq_true rfl) rfl rfl (Nat.le_of_ble_eq_true rfl) d_X1_hundredths_15 ?_
    cases h
    exact gb_iret d_X1_hundredths_18 rfl ⟨rfl, rfl, rfl⟩
  · have h := gb_it hc h
    refine gb_bipush 100 d_X1_hundredths_7 rfl ?_
    refine gb_goto 18 d_X1_hundredths_9 (by decide) ?_
    cases h
    exact gb_iret d_X1_hundredths_18 rfl ⟨rfl, rfl, rfl⟩
-- X1_thousandths
noncomputable def f_X1_thousandths (sh : List gb_Sh) (g : gb_G) : Option (gb_G × Int32) := gb_bd (f_X1_cutTimes sh g 1000) (fun r1 => some (r1.1, r1.2))
set_option maxRecDepth 100000 in
set_option maxHeartbeats 4000000 in
theorem t_X1_thousandths {Γ : gb_X} {sh : List gb_Sh} {out : gb_G × Int32} (hS : gb_S sh) {g : gb_G} (h : f_X1_thousandths sh g = some out) : gb_C Γ M_X1_thousandths 2 0 0 sh g [.ref 57] (gb_Ri sh out) := by
  refine gb_C.of rfl (Nat.le_of_ble_eq_true rfl) ?_
  refine gb_pick (lv' := [(0, .ref 57)]) [0] rfl ?_
  unfold f_X1_thousandths at h
  refine gb_aload_n d_X1_thousandths_0 rfl ?_
  refine gb_sipush 1000 d_X1_thousandths_1 rfl ?_
  obtain ⟨r1, e2, h⟩ := gb_bd_e h
  refine gb_cVi (As := [.int 1000]) (rest := []) m_X1_96 (t_X1_cutTimes (Γ := Γ) hS e2) (hS 57 _ rfl) rfl (Nat.le_of_ble_eq_true rfl) rfl rfl (Nat.le_of_ble_eq_true rfl) d_X1_thousandths_4 ?_
  cases h
  exact gb_iret d_X1_thousandths_7 rfl ⟨rfl, rfl, rfl⟩
-- X2_side
noncomputable def f_X2_side (sh : List gb_Sh) (g : gb_G) (b : Nat) (x1 : Int32) : Option (gb_G × Int64) := if x1 = 0 then (some (g, (g.2.1 b 0))) else (some (g, (g.2.1 b 1)))
set_option maxRecDepth 100000 in
set_option maxHeartbeats 4000000 in
theorem t_X2_side {Γ : gb_X} {sh : List gb_Sh} {b : Nat} {x1 : Int32} {out : gb_G × Int64} (hS : gb_S sh) (h_b : gb_okX2 sh b) {g : gb_G} (h : f_X2_side sh g b x1 = some out) : gb_C Γ M_X2_side 0 0 0 sh g [.ref b, .int x1] (gb_Rl sh out) := by
  refine gb_C.of rfl (Nat.le_of_ble_eq_true rfl) ?_
  refine gb_pick (lv' := [(0, .ref b), (1, .int x1)]) [0, 1] rfl ?_
  unfold f_X2_side at h
  refine gb_iload_n d_X2_side_0 rfl ?_
  refine gb_if_ne 11 d_X2_side_1 (by decide) (fun hc => ?_) (fun hc => ?_)
  · have h := gb_if hc h
    refine gb_aload_n d_X2_side_11 rfl ?_
    refine gb_getl f_X2_13 h_b rfl d_X2_side_12 ?_
    cases h
    exact gb_lret d_X2_side_15 rfl ⟨rfl, rfl, rfl⟩
  · have h := gb_it hc h
    refine gb_aload_n d_X2_side_4 rfl ?_
    refine gb_getl f_X2_7 h_b rfl d_X2_side_5 ?_
    refine gb_goto 15 d_X2_side_8 (by decide) ?_
    cases h
    exact gb_lret d_X2_side_15 rfl ⟨rfl, rfl, rfl⟩
-- X3_clear
noncomputable def f_X3_clear (sh : List gb_Sh) (g : gb_G) (b : Nat) : Option (gb_G) := gb_let (gb_pi g b 0 0) (fun g1 => some g1)
set_option maxRecDepth 100000 in
set_option maxHeartbeats 4000000 in
theorem t_X3_clear {Γ : gb_X} {sh : List gb_Sh} {b : Nat} {out : gb_G} (hS : gb_S sh) (h_b : gb_okX3 sh b) {g : gb_G} (h : f_X3_clear sh g b = some out) : gb_C Γ M_X3_clear 0 0 0 sh g [.ref b] (gb_Rv sh out) := by
  refine gb_C.of rfl (Nat.le_of_ble_eq_true rfl) ?_
  refine gb_pick (lv' := [(0, .ref b)]) [0] rfl ?_
  unfold f_X3_clear at h
  refine gb_aload_n d_X3_clear_0 rfl ?_
  refine gb_iconst 0 d_X3_clear_1 rfl ?_
  refine gb_puti f_X3_9 (fun h => nomatch h) h_b.1 rfl rfl rfl d_X3_clear_2 ?_
  have h := gb_let_e h
  generalize gb_pi g b 0 0 = g1 at h ⊢
  cases h
  exact gb_vret d_X3_clear_5 rfl ⟨rfl, rfl, rfl⟩
-- X3_copyFrom
noncomputable def f_X3_copyFrom (sh : List gb_Sh) (g : gb_G) (b : Nat) (b1 : Nat) : Option (gb_G) := gb_let (gb_pi g b 0 (g.1 b1 0)) (fun g1 => gb_cp 0 0 16 16 16 (gb_let (gb_pa g1 (b + 1) (va_cpy (g1.1 (b1 + 1)) (g1.1 (b + 1)) ((0 : Int32).toNatClampNeg) ((0 : Int32).toNatClampNeg) ((16 : Int32).toNatClampNeg))) (fun g3 => gb_cp 0 0 16 16 16 (gb_let (gb_pa g3 (b + 2) (va_cpy (g3.1 (b1 + 2)) (g3.1 (b + 2)) ((0 : Int32).toNatClampNeg) ((0 : Int32).toNatClampNeg) ((16 : Int32).toNatClampNeg))) (fun g5 => gb_cp 0 0 16 16 16 (gb_let (gb_pa g5 (b + 3) (va_cpy (g5.1 (b1 + 3)) (g5.1 (b + 3)) ((0 : Int32).toNatClampNeg) ((0 : Int32).toNatClampNeg) ((16 : Int32).toNatClampNeg))) (fun g7 => gb_cp 0 0 128 128 128 (gb_let (gb_pa g7 (b + 4) (va_cpy (g7.1 (b1 + 4)) (g7.1 (b + 4)) ((0 : Int32).toNatClampNeg) ((0 : Int32).toNatClampNeg) ((128 : Int32).toNatClampNeg))) (fun g9 => some g9)))))))))
set_option maxRecDepth 100000 in
set_option maxHeartbeats 4000000 in
theorem t_X3_copyFrom {Γ : gb_X} {sh : List gb_Sh} {b : Nat} {b1 : Nat} {out : gb_G} (hS : gb_S sh) (h_b : gb_okX3 sh b) (h_b1 : gb_okX3 sh b1) {g : gb_G} (h : f_X3_copyFrom sh g b b1 = some out) : gb_C Γ M_X3_copyFrom 1 0 0 sh g [.ref b, .ref b1] (gb_Rv sh out) := by
  refine gb_C.of rfl (Nat.le_of_ble_eq_true rfl) ?_
  refine gb_pick (lv' := [(0, .ref b), (1, .ref b1)]) [0, 1] rfl ?_
  unfold f_X3_copyFrom at h
  refine gb_aload_n d_X3_copyFrom_0 rfl ?_
  refine gb_aload_n d_X3_copyFrom_1 rfl ?_
  refine gb_geti f_X3_9 h_b1.1 rfl d_X3_copyFrom_2 ?_
  refine gb_puti f_X3_9 (fun h => nomatch h) h_b.1 rfl rfl rfl d_X3_copyFrom_5 ?_
  have h := gb_let_e h
  generalize gb_pi g b 0 (g.1 b1 0) = g1 at h ⊢
  refine gb_aload_n d_X3_copyFrom_8 rfl ?_
  refine gb_getr (r := (b1 + 1)) f_X3_15 h_b1.1 rfl d_X3_copyFrom_9 ?_
  refine gb_iconst 0 d_X3_copyFrom_12 rfl ?_
  refine gb_aload_n d_X3_copyFrom_13 rfl ?_
  refine gb_getr (r := (b + 1)) f_X3_15 h_b.1 rfl d_X3_copyFrom_14 ?_
  refine gb_iconst 0 d_X3_copyFrom_17 rfl ?_
  refine gb_bipush 16 d_X3_copyFrom_18 rfl ?_
  obtain ⟨hq2, h⟩ := gb_cp_e h
  refine gb_copy a_X3_28 wa_n wa_s wn_J10 h_b1.2.1 h_b.2.1 hq2.1 hq2.2.1 hq2.2.2.1 hq2.2.2.2.1 hq2.2.2.2.2 (Nat.le_of_ble_eq_true rfl) (Nat.le_of_ble_eq_true rfl) d_X3_copyFrom_20 ?_
  have h := gb_let_e h
  generalize gb_pa g1 (b + 1) (va_cpy (g1.1 (b1 + 1)) (g1.1 (b + 1)) ((0 : Int32).toNatClampNeg) ((0 : Int32).toNatClampNeg) ((16 : Int32).toNatClampNeg)) = g3 at h ⊢
  refine gb_aload_n d_X3_copyFrom_23 rfl ?_
  refine gb_getr (r := (b1 + 2)) f_X3_19 h_b1.1 rfl d_X3_copyFrom_24 ?_
  refine gb_iconst 0 d_X3_copyFrom_27 rfl ?_
  refine gb_aload_n d_X3_copyFrom_28 rfl ?_
  refine gb_getr (r := (b + 2)) f_X3_19 h_b.1 rfl d_X3_copyFrom_29 ?_
  refine gb_iconst 0 d_X3_copyFrom_32 rfl ?_
  refine gb_bipush 16 d_X3_copyFrom_33 rfl ?_
  obtain ⟨hq4, h⟩ := gb_cp_e h
  refine gb_copy a_X3_28 wa_n wa_s wn_J10 h_b1.2.2.1 h_b.2.2.1 hq4.1 hq4.2.1 hq4.2.2.1 hq4.2.2.2.1 hq4.2.2.2.2 (Nat.le_of_ble_eq_true rfl) (Nat.le_of_ble_eq_true rfl) d_X3_copyFrom_35 ?_
  have h := gb_let_e h
  generalize gb_pa g3 (b + 2) (va_cpy (g3.1 (b1 + 2)) (g3.1 (b + 2)) ((0 : Int32).toNatClampNeg) ((0 : Int32).toNatClampNeg) ((16 : Int32).toNatClampNeg)) = g5 at h ⊢
  refine gb_aload_n d_X3_copyFrom_38 rfl ?_
  refine gb_getr (r := (b1 + 3)) f_X3_22 h_b1.1 rfl d_X3_copyFrom_39 ?_
  refine gb_iconst 0 d_X3_copyFrom_42 rfl ?_
  refine gb_aload_n d_X3_copyFrom_43 rfl ?_
  refine gb_getr (r := (b + 3)) f_X3_22 h_b.1 rfl d_X3_copyFrom_44 ?_
  refine gb_iconst 0 d_X3_copyFrom_47 rfl ?_
  refine gb_bipush 16 d_X3_copyFrom_48 rfl ?_
  obtain ⟨hq6, h⟩ := gb_cp_e h
  refine gb_copy a_X3_28 wa_n wa_s wn_J10 h_b1.2.2.2.1 h_b.2.2.2.1 hq6.1 hq6.2.1 hq6.2.2.1 hq6.2.2.2.1 hq6.2.2.2.2 (Nat.le_of_ble_eq_true rfl) (Nat.le_of_ble_eq_true rfl) d_X3_copyFrom_50 ?_
  have h := gb_let_e h
  generalize gb_pa g5 (b + 3) (va_cpy (g5.1 (b1 + 3)) (g5.1 (b + 3)) ((0 : Int32).toNatClampNeg) ((0 : Int32).toNatClampNeg) ((16 : Int32).toNatClampNeg)) = g7 at h ⊢
  refine gb_aload_n d_X3_copyFrom_53 rfl ?_
  refine gb_getr (r := (b1 + 4)) f_X3_25 h_b1.1 rfl d_X3_copyFrom_54 ?_
  refine gb_iconst 0 d_X3_copyFrom_57 rfl ?_
  refine gb_aload_n d_X3_copyFrom_58 rfl ?_
  refine gb_getr (r := (b + 4)) f_X3_25 h_b.1 rfl d_X3_copyFrom_59 ?_
  refine gb_iconst 0 d_X3_copyFrom_62 rfl ?_
  refine gb_sipush 128 d_X3_copyFrom_63 rfl ?_
  obtain ⟨hq8, h⟩ := gb_cp_e h
  refine gb_copy a_X3_28 wa_n wa_s wn_J10 h_b1.2.2.2.2 h_b.2.2.2.2 hq8.1 hq8.2.1 hq8.2.2.1 hq8.2.2.2.1 hq8.2.2.2.2 (Nat.le_of_ble_eq_true rfl) (Nat.le_of_ble_eq_true rfl) d_X3_copyFrom_66 ?_
  have h := gb_let_e h
  generalize gb_pa g7 (b + 4) (va_cpy (g7.1 (b1 + 4)) (g7.1 (b + 4)) ((0 : Int32).toNatClampNeg) ((0 : Int32).toNatClampNeg) ((128 : Int32).toNatClampNeg)) = g9 at h ⊢
  cases h
  exact gb_vret d_X3_copyFrom_69 rfl ⟨rfl, rfl, rfl⟩
-- X3_dropOldest
noncomputable def f_X3_dropOldest (sh : List gb_Sh) (g : gb_G) (b : Nat) : Option (gb_G) := gb_cp 1 0 15 16 16 (gb_let (gb_pa g (b + 1) (va_cpy (g.1 (b + 1)) (g.1 (b + 1)) ((1 : Int32).toNatClampNeg) ((0 : Int32).toNatClampNeg) ((15 : Int32).toNatClampNeg))) (fun g2 => gb_cp 1 0 15 16 16 (gb_let (gb_pa g2 (b + 2) (va_cpy (g2.1 (b + 2)) (g2.1 (b + 2)) ((1 : Int32).toNatClampNeg) ((0 : Int32).toNatClampNeg) ((15 : Int32).toNatClampNeg))) (fun g4 => gb_cp 1 0 15 16 16 (gb_let (gb_pa g4 (b + 3) (va_cpy (g4.1 (b + 3)) (g4.1 (b + 3)) ((1 : Int32).toNatClampNeg) ((0 : Int32).toNatClampNeg) ((15 : Int32).toNatClampNeg))) (fun g6 => gb_cp 8 0 120 128 128 (gb_let (gb_pa g6 (b + 4) (va_cpy (g6.1 (b + 4)) (g6.1 (b + 4)) ((8 : Int32).toNatClampNeg) ((0 : Int32).toNatClampNeg) ((120 : Int32).toNatClampNeg))) (fun g8 => gb_let (gb_pi g8 b 0 15) (fun g9 => some g9)))))))))
set_option maxRecDepth 100000 in
set_option maxHeartbeats 4000000 in
theorem t_X3_dropOldest {Γ : gb_X} {sh : List gb_Sh} {b : Nat} {out : gb_G} (hS : gb_S sh) (h_b : gb_okX3 sh b) {g : gb_G} (h : f_X3_dropOldest sh g b = some out) : gb_C Γ M_X3_dropOldest 1 0 0 sh g [.ref b] (gb_Rv sh out) := by
  refine gb_C.of rfl (Nat.le_of_ble_eq_true rfl) ?_
  refine gb_pick (lv' := [(0, .ref b)]) [0] rfl ?_
  unfold f_X3_dropOldest at h
  refine gb_aload_n d_X3_dropOldest_0 rfl ?_
  refine gb_getr (r := (b + 1)) f_X3_15 h_b.1 rfl d_X3_dropOldest_1 ?_
  refine gb_iconst 1 d_X3_dropOldest_4 rfl ?_
  refine gb_aload_n d_X3_dropOldest_5 rfl ?_
  refine gb_getr (r := (b + 1)) f_X3_15 h_b.1 rfl d_X3_dropOldest_6 ?_
  refine gb_iconst 0 d_X3_dropOldest_9 rfl ?_
  refine gb_bipush 15 d_X3_dropOldest_10 rfl ?_
  obtain ⟨hq1, h⟩ := gb_cp_e h
  refine gb_copy a_X3_28 wa_n wa_s wn_J10 h_b.2.1 h_b.2.1 hq1.1 hq1.2.1 hq1.2.2.1 hq1.2.2.2.1 hq1.2.2.2.2 (Nat.le_of_ble_eq_true rfl) (Nat.le_of_ble_eq_true rfl) d_X3_dropOldest_12 ?_
  have h := gb_let_e h
  generalize gb_pa g (b + 1) (va_cpy (g.1 (b + 1)) (g.1 (b + 1)) ((1 : Int32).toNatClampNeg) ((0 : Int32).toNatClampNeg) ((15 : Int32).toNatClampNeg)) = g2 at h ⊢
  refine gb_aload_n d_X3_dropOldest_15 rfl ?_
  refine gb_getr (r := (b + 2)) f_X3_19 h_b.1 rfl d_X3_dropOldest_16 ?_
  refine gb_iconst 1 d_X3_dropOldest_19 rfl ?_
  refine gb_aload_n d_X3_dropOldest_20 rfl ?_
  refine gb_getr (r := (b + 2)) f_X3_19 h_b.1 rfl d_X3_dropOldest_21 ?_
  refine gb_iconst 0 d_X3_dropOldest_24 rfl ?_
  refine gb_bipush 15 d_X3_dropOldest_25 rfl ?_
  obtain ⟨hq3, h⟩ := gb_cp_e h
  refine gb_copy a_X3_28 wa_n wa_s wn_J10 h_b.2.2.1 h_b.2.2.1 hq3.1 hq3.2.1 hq3.2.2.1 hq3.2.2.2.1 hq3.2.2.2.2 (Nat.le_of_ble_eq_true rfl) (Nat.le_of_ble_eq_true rfl) d_X3_dropOldest_27 ?_
  have h := gb_let_e h
  generalize gb_pa g2 (b + 2) (va_cpy (g2.1 (b + 2)) (g2.1 (b + 2)) ((1 : Int32).toNatClampNeg) ((0 : Int32).toNatClampNeg) ((15 : Int32).toNatClampNeg)) = g4 at h ⊢
  refine gb_aload_n d_X3_dropOldest_30 rfl ?_
  refine gb_getr (r := (b + 3)) f_X3_22 h_b.1 rfl d_X3_dropOldest_31 ?_
  refine gb_iconst 1 d_X3_dropOldest_34 rfl ?_
  refine gb_aload_n d_X3_dropOldest_35 rfl ?_
  refine gb_getr (r := (b + 3)) f_X3_22 h_b.1 rfl d_X3_dropOldest_36 ?_
  refine gb_iconst 0 d_X3_dropOldest_39 rfl ?_
  refine gb_bipush 15 d_X3_dropOldest_40 rfl ?_
  obtain ⟨hq5, h⟩ := gb_cp_e h
  refine gb_copy a_X3_28 wa_n wa_s wn_J10 h_b.2.2.2.1 h_b.2.2.2.1 hq5.1 hq5.2.1 hq5.2.2.1 hq5.2.2.2.1 hq5.2.2.2.2 (Nat.le_of_ble_eq_true rfl) (Nat.le_of_ble_eq_true rfl) d_X3_dropOldest_42 ?_
  have h := gb_let_e h
  generalize gb_pa g4 (b + 3) (va_cpy (g4.1 (b + 3)) (g4.1 (b + 3)) ((1 : Int32).toNatClampNeg) ((0 : Int32).toNatClampNeg) ((15 : Int32).toNatClampNeg)) = g6 at h ⊢
  refine gb_aload_n d_X3_dropOldest_45 rfl ?_
  refine gb_getr (r := (b + 4)) f_X3_25 h_b.1 rfl d_X3_dropOldest_46 ?_
  refine gb_bipush 8 d_X3_dropOldest_49 rfl ?_
  refine gb_aload_n d_X3_dropOldest_51 rfl ?_
  refine gb_getr (r := (b + 4)) f_X3_25 h_b.1 rfl d_X3_dropOldest_52 ?_
  refine gb_iconst 0 d_X3_dropOldest_55 rfl ?_
  refine gb_bipush 120 d_X3_dropOldest_56 rfl ?_
  obtain ⟨hq7, h⟩ := gb_cp_e h
  refine gb_copy a_X3_28 wa_n wa_s wn_J10 h_b.2.2.2.2 h_b.2.2.2.2 hq7.1 hq7.2.1 hq7.2.2.1 hq7.2.2.2.1 hq7.2.2.2.2 (Nat.le_of_ble_eq_true rfl) (Nat.le_of_ble_eq_true rfl) d_X3_dropOldest_58 ?_
  have h := gb_let_e h
  generalize gb_pa g6 (b + 4) (va_cpy (g6.1 (b + 4)) (g6.1 (b + 4)) ((8 : Int32).toNatClampNeg) ((0 : Int32).toNatClampNeg) ((120 : Int32).toNatClampNeg)) = g8 at h ⊢
  refine gb_aload_n d_X3_dropOldest_61 rfl ?_
  refine gb_bipush 15 d_X3_dropOldest_62 rfl ?_
  refine gb_puti f_X3_9 (fun h => nomatch h) h_b.1 rfl rfl rfl d_X3_dropOldest_64 ?_
  have h := gb_let_e h
  generalize gb_pi g8 b 0 15 = g9 at h ⊢
  cases h
  exact gb_vret d_X3_dropOldest_67 rfl ⟨rfl, rfl, rfl⟩
-- X3_remember
noncomputable def f_X3_remember_51 (sh : List gb_Sh) (b : Nat) (b3 : Nat) : Nat → gb_G → Int32 → Option (gb_G)
  | 0, _, _ => none
  | n + 1, g, y4 => if 8 ≤ y4 then (gb_let (gb_pi g b 0 ((g.1 b 0) + 1)) (fun g9 => some g9)) else (gb_bd (f_X0_read sh g b3 y4 1) (fun r10 => gb_ck (((g.1 b 0) * 8) + y4) 128 (gb_let (gb_pi r10.1 (b + 4) ((((g.1 b 0) * 8) + y4).toNatClampNeg) r10.2) (fun g13 => f_X3_remember_51 sh b b3 n g13 (y4 + 1)))))
noncomputable def f_X3_remember_13 (sh : List gb_Sh) (b : Nat) (b3 : Nat) (g : gb_G) (y1 : Int32) (y2 : Int32) : Option (gb_G) := gb_ck (g.1 b 0) 16 (gb_let (gb_pi g (b + 1) ((g.1 b 0).toNatClampNeg) y1) (fun g2 => gb_ck (g2.1 b 0) 16 (gb_let (gb_pi g2 (b + 2) ((g2.1 b 0).toNatClampNeg) y2) (fun g4 => gb_bd (f_X0_read sh g4 b3 y2 2) (fun r5 => gb_ck (g4.1 b 0) 16 (gb_let (gb_pi r5.1 (b + 3) ((g4.1 b 0).toNatClampNeg) r5.2) (fun g8 => f_X3_remember_51 sh b b3 gb_N g8 0)))))))
noncomputable def f_X3_remember (sh : List gb_Sh) (g : gb_G) (b : Nat) (x1 : Int32) (x2 : Int32) (b3 : Nat) : Option (gb_G) := if (g.1 b 0) < 16 then (f_X3_remember_13 sh b b3 g x1 x2) else (gb_bd (f_X3_dropOldest sh g b) (fun r14 => f_X3_remember_13 sh b b3 r14 x1 x2))
set_option maxRecDepth 100000 in
set_option maxHeartbeats 4000000 in
theorem t_X3_remember_51 {Γ : gb_X} {sh : List gb_Sh} {b : Nat} {b3 : Nat} {out : gb_G} (hS : gb_S sh) (h_b : gb_okX3 sh b) (h_b3 : gb_okX0 sh b3) : ∀ (n : Nat) (g : gb_G) (y4 : Int32), f_X3_remember_51 sh b b3 n g y4 = some out → gb_J Γ M_X3_remember 2 (gb_Rv sh out) 0 0 sh g 51 [(0, .ref b), (3, .ref b3), (4, .int y4)] [] := by
  intro n
  induction n with
  | zero => intro g y4 h; cases h
  | succ n ih =>
    intro g y4 h
    rw [f_X3_remember_51] at h
    refine gb_iload d_X3_remember_51 rfl ?_
    refine gb_bipush 8 d_X3_remember_53 rfl ?_
    refine gb_icmp_ge 86 d_X3_remember_55 (by decide) (fun hc => ?_) (fun hc => ?_)
    · have h := gb_it hc h
      refine gb_aload_n d_X3_remember_86 rfl ?_
      refine gb_dup d_X3_remember_87 rfl ?_
      refine gb_geti f_X3_9 h_b.1 rfl d_X3_remember_88 ?_
      refine gb_iconst 1 d_X3_remember_91 rfl ?_
      refine gb_iadd d_X3_remember_92 ?_
      refine gb_puti f_X3_9 (fun h => nomatch h) h_b.1 rfl rfl rfl d_X3_remember_93 ?_
      have h := gb_let_e h
      generalize gb_pi g b 0 ((g.1 b 0) + 1) = g9 at h ⊢
      cases h
      exact gb_vret d_X3_remember_96 rfl ⟨rfl, rfl, rfl⟩
    · have h := gb_if hc h
      refine gb_aload_n d_X3_remember_58 rfl ?_
      refine gb_getr (r := (b + 4)) f_X3_25 h_b.1 rfl d_X3_remember_59 ?_
      refine gb_aload_n d_X3_remember_62 rfl ?_
      refine gb_geti f_X3_9 h_b.1 rfl d_X3_remember_63 ?_
      refine gb_bipush 8 d_X3_remember_66 rfl ?_
      refine gb_imul d_X3_remember_68 ?_
      refine gb_iload d_X3_remember_69 rfl ?_
      refine gb_iadd d_X3_remember_71 ?_
      refine gb_aload_n d_X3_remember_72 rfl ?_
      refine gb_iload d_X3_remember_73 rfl ?_
      refine gb_iconst 1 d_X3_remember_75 rfl ?_
      obtain ⟨r10, e11, h⟩ := gb_bd_e h
      refine gb_cVi (As := [.int y4, .int 1]) (rest := [.int (((g.1 b 0) * 8) + y4), .ref (b + 4)]) m_X3_37 (t_X0_read (Γ := Γ) hS h_b3 e11) h_b3.1 rfl (Nat.le_of_ble_eq_true rfl) rfl rfl (Nat.le_of_ble_eq_true rfl) d_X3_remember_76 ?_
      obtain ⟨hi12, h⟩ := gb_ck_e h
      refine gb_iast_ ((((g.1 b 0) * 8) + y4).toNatClampNeg) rfl h_b.2.2.2.2 hi12 d_X3_remember_79 ?_
      have h := gb_let_e h
      generalize gb_pi r10.1 (b + 4) ((((g.1 b 0) * 8) + y4).toNatClampNeg) r10.2 = g13 at h ⊢
      refine gb_iinc (y4 + 1) [(4, .int (y4 + 1)), (0, .ref b), (3, .ref b3)] d_X3_remember_80 (Nat.le_of_ble_eq_true rfl) rfl rfl rfl ?_
      refine gb_goto 51 d_X3_remember_83 (by decide) ?_
      refine gb_pick (lv' := [(0, .ref b), (3, .ref b3), (4, .int (y4 + 1))]) [1, 2, 0] rfl ?_
      exact ih _ (y4 + 1) h
set_option maxRecDepth 100000 in
set_option maxHeartbeats 4000000 in
theorem t_X3_remember_13 {Γ : gb_X} {sh : List gb_Sh} {b : Nat} {b3 : Nat} {out : gb_G} (hS : gb_S sh) (h_b : gb_okX3 sh b) (h_b3 : gb_okX0 sh b3) : ∀ (g : gb_G) (y1 : Int32) (y2 : Int32), f_X3_remember_13 sh b b3 g y1 y2 = some out → gb_J Γ M_X3_remember 2 (gb_Rv sh out) 0 0 sh g 13 [(0, .ref b), (1, .int y1), (2, .int y2), (3, .ref b3)] [] := by
  intro g y1 y2 h
  unfold f_X3_remember_13 at h
  refine gb_aload_n d_X3_remember_13 rfl ?_
  refine gb_getr (r := (b + 1)) f_X3_15 h_b.1 rfl d_X3_remember_14 ?_
  refine gb_aload_n d_X3_remember_17 rfl ?_
  refine gb_geti f_X3_9 h_b.1 rfl d_X3_remember_18 ?_
  refine gb_iload_n d_X3_remember_21 rfl ?_
  obtain ⟨hi1, h⟩ := gb_ck_e h
  refine gb_iast_ ((g.1 b 0).toNatClampNeg) rfl h_b.2.1 hi1 d_X3_remember_22 ?_
  have h := gb_let_e h
  generalize gb_pi g (b + 1) ((g.1 b 0).toNatClampNeg) y1 = g2 at h ⊢
  refine gb_aload_n d_X3_remember_23 rfl ?_
  refine gb_getr (r := (b + 2)) f_X3_19 h_b.1 rfl d_X3_remember_24 ?_
  refine gb_aload_n d_X3_remember_27 rfl ?_
  refine gb_geti f_X3_9 h_b.1 rfl d_X3_remember_28 ?_
  refine gb_iload_n d_X3_remember_31 rfl ?_
  obtain ⟨hi3, h⟩ := gb_ck_e h
  refine gb_iast_ ((g2.1 b 0).toNatClampNeg) rfl h_b.2.2.1 hi3 d_X3_remember_32 ?_
  have h := gb_let_e h
  generalize gb_pi g2 (b + 2) ((g2.1 b 0).toNatClampNeg) y2 = g4 at h ⊢
  refine gb_aload_n d_X3_remember_33 rfl ?_
  refine gb_getr (r := (b + 3)) f_X3_22 h_b.1 rfl d_X3_remember_34 ?_
  refine gb_aload_n d_X3_remember_37 rfl ?_
  refine gb_geti f_X3_9 h_b.1 rfl d_X3_remember_38 ?_
  refine gb_aload_n d_X3_remember_41 rfl ?_
  refine gb_iload_n d_X3_remember_42 rfl ?_
  refine gb_iconst 2 d_X3_remember_43 rfl ?_
  obtain ⟨r5, e6, h⟩ := gb_bd_e h
  refine gb_cVi (As := [.int y2, .int 2]) (rest := [.int (g4.1 b 0), .ref (b + 3)]) m_X3_37 (t_X0_read (Γ := Γ) hS h_b3 e6) h_b3.1 rfl (Nat.le_of_ble_eq_true rfl) rfl rfl (Nat.le_of_ble_eq_true rfl) d_X3_remember_44 ?_
  obtain ⟨hi7, h⟩ := gb_ck_e h
  refine gb_iast_ ((g4.1 b 0).toNatClampNeg) rfl h_b.2.2.2.1 hi7 d_X3_remember_47 ?_
  have h := gb_let_e h
  generalize gb_pi r5.1 (b + 3) ((g4.1 b 0).toNatClampNeg) r5.2 = g8 at h ⊢
  refine gb_iconst 0 d_X3_remember_48 rfl ?_
  refine gb_istore [(4, .int 0), (0, .ref b), (1, .int y1), (2, .int y2), (3, .ref b3)] d_X3_remember_49 (Nat.le_of_ble_eq_true rfl) rfl ?_
  refine gb_pick (lv' := [(0, .ref b), (3, .ref b3), (4, .int 0)]) [1, 4, 0] rfl ?_
  exact t_X3_remember_51 hS h_b h_b3  gb_N _ 0 h
set_option maxRecDepth 100000 in
set_option maxHeartbeats 4000000 in
theorem t_X3_remember {Γ : gb_X} {sh : List gb_Sh} {b : Nat} {x1 : Int32} {x2 : Int32} {b3 : Nat} {out : gb_G} (hS : gb_S sh) (h_b : gb_okX3 sh b) (h_b3 : gb_okX0 sh b3) {g : gb_G} (h : f_X3_remember sh g b x1 x2 b3 = some out) : gb_C Γ M_X3_remember 2 0 0 sh g [.ref b, .int x1, .int x2, .ref b3] (gb_Rv sh out) := by
  refine gb_C.of rfl (Nat.le_of_ble_eq_true rfl) ?_
  refine gb_pick (lv' := [(0, .ref b), (1, .int x1), (2, .int x2), (3, .ref b3)]) [0, 1, 2, 3] rfl ?_
  unfold f_X3_remember at h
  refine gb_aload_n d_X3_remember_0 rfl ?_
  refine gb_geti f_X3_9 h_b.1 rfl d_X3_remember_1 ?_
  refine gb_bipush 16 d_X3_remember_4 rfl ?_
  refine gb_icmp_lt 13 d_X3_remember_6 (by decide) (fun hc => ?_) (fun hc => ?_)
  · have h := gb_it hc h
    exact t_X3_remember_13 hS h_b h_b3  _ x1 x2 h
  · have h := gb_if hc h
    refine gb_aload_n d_X3_remember_9 rfl ?_
    obtain ⟨r14, e15, h⟩ := gb_bd_e h
    refine gb_cVv (As := []) (rest := []) m_X3_34 (t_X3_dropOldest (Γ := Γ) hS h_b e15) h_b.1 rfl (Nat.le_of_ble_eq_true rfl) rfl rfl (Nat.le_of_ble_eq_true rfl) d_X3_remember_10 ?_
    exact t_X3_remember_13 hS h_b h_b3  _ x1 x2 h
-- X3_takeBack
noncomputable def f_X3_takeBack_150 (sh : List gb_Sh) (b : Nat) (b1 : Nat) (g : gb_G)  : Option (gb_G × Int32) := gb_ck (g.1 b 0) 16 (some (g, (g.1 (b + 1) ((g.1 b 0).toNatClampNeg))))
noncomputable def f_X3_takeBack_140 (sh : List gb_Sh) (b : Nat) (b1 : Nat) (K150 : gb_G → Option (gb_G × Int32)) (g : gb_G)  : Option (gb_G × Int32) := gb_let (gb_pi g (b1 + 4) 0 ((g.1 (b1 + 4) 0) - 1)) (fun g17 => K150 g17 )
noncomputable def f_X3_takeBack_100 (sh : List gb_Sh) (b : Nat) (b1 : Nat) (K150 : gb_G → Option (gb_G × Int32)) : Nat → gb_G → Int32 → Option (gb_G × Int32)
  | 0, _, _ => none
  | n + 1, g, y3 => if (g.1 b1 0) ≤ y3 then (f_X3_takeBack_140 sh b b1 K150 g ) else (if 8 ≤ y3 then (f_X3_takeBack_140 sh b b1 K150 g ) else (gb_ck (((g.1 b 0) * 8) + y3) 128 (gb_bd (f_X0_write sh g b1 y3 1 (g.1 (b + 4) ((((g.1 b 0) * 8) + y3).toNatClampNeg))) (fun r19 => f_X3_takeBack_100 sh b b1 K150 n r19 (y3 + 1)))))
noncomputable def f_X3_takeBack (sh : List gb_Sh) (g : gb_G) (b : Nat) (b1 : Nat) : Option (gb_G × Int32) := gb_bd (f_J9_max_7cf53 sh g 0 ((g.1 b 0) - 1)) (fun r1 => gb_let (gb_pi r1.1 b 0 r1.2) (fun g3 => gb_ck (g3.1 b 0) 16 (gb_ck (g3.1 b 0) 16 (if (g3.1 (b + 1) ((g3.1 b 0).toNatClampNeg)) = 0 then (gb_bd (f_X0_write sh g3 b1 (g3.1 (b + 2) ((g3.1 b 0).toNatClampNeg)) 5 0) (fun r7 => f_X3_takeBack_150 sh b b1 r7 )) else if (g3.1 (b + 1) ((g3.1 b 0).toNatClampNeg)) = 1 then (gb_bd (f_X0_write sh g3 b1 (g3.1 (b + 2) ((g3.1 b 0).toNatClampNeg)) 5 1) (fun r11 => f_X3_takeBack_150 sh b b1 r11 )) else if (g3.1 (b + 1) ((g3.1 b 0).toNatClampNeg)) = 2 then (gb_ck (g3.1 b 0) 16 (gb_bd (f_X0_write sh g3 b1 (g3.1 (b + 2) ((g3.1 b 0).toNatClampNeg)) 2 (g3.1 (b + 3) ((g3.1 b 0).toNatClampNeg))) (fun r15 => f_X3_takeBack_150 sh b b1 r15 ))) else (f_X3_takeBack_100 sh b b1 (fun w  => f_X3_takeBack_150 sh b b1 w ) gb_N g3 0)))))
set_option maxRecDepth 100000 in
set_option maxHeartbeats 4000000 in
theorem t_X3_takeBack_150 {Γ : gb_X} {sh : List gb_Sh} {b : Nat} {b1 : Nat} {out : gb_G × Int32} (hS : gb_S sh) (h_b : gb_okX3 sh b) (h_b1 : gb_okX0 sh b1) : ∀ (g : gb_G) , f_X3_takeBack_150 sh b b1 g  = some out → gb_J Γ M_X3_takeBack 3 (gb_Ri sh out) 0 0 sh g 150 [(0, .ref b)] [] := by
  intro g  h
  unfold f_X3_takeBack_150 at h
  refine gb_aload_n d_X3_takeBack_150 rfl ?_
  refine gb_getr (r := (b + 1)) f_X3_15 h_b.1 rfl d_X3_takeBack_151 ?_
  refine gb_aload_n d_X3_takeBack_154 rfl ?_
  refine gb_geti f_X3_9 h_b.1 rfl d_X3_takeBack_155 ?_
  obtain ⟨hi9, h⟩ := gb_ck_e h
  refine gb_iald_ ((g.1 b 0).toNatClampNeg) rfl h_b.2.1 hi9 d_X3_takeBack_158 ?_
  cases h
  exact gb_iret d_X3_takeBack_159 rfl ⟨rfl, rfl, rfl⟩
set_option maxRecDepth 100000 in
set_option maxHeartbeats 4000000 in
theorem t_X3_takeBack_140 {Γ : gb_X} {sh : List gb_Sh} {b : Nat} {b1 : Nat} {out : gb_G × Int32} (hS : gb_S sh) (h_b : gb_okX3 sh b) (h_b1 : gb_okX0 sh b1) {K150 : gb_G → Option (gb_G × Int32)} (hK150 : ∀ (g : gb_G) , K150 g  = some out → gb_J Γ M_X3_takeBack 3 (gb_Ri sh out) 0 0 sh g 150 [(0, .ref b)] []) : ∀ (g : gb_G) , f_X3_takeBack_140 sh b b1 K150 g  = some out → gb_J Γ M_X3_takeBack 3 (gb_Ri sh out) 0 0 sh g 140 [(0, .ref b), (1, .ref b1)] [] := by
  intro g  h
  unfold f_X3_takeBack_140 at h
  refine gb_aload_n d_X3_takeBack_140 rfl ?_
  refine gb_getr (r := (b1 + 4)) f_X3_54 h_b1.1 rfl d_X3_takeBack_141 ?_
  refine gb_iconst 0 d_X3_takeBack_144 rfl ?_
  refine gb_dup2 d_X3_takeBack_145 rfl rfl ?_
  refine gb_iald_ 0 rfl h_b1.2.2.2.2.1 (by unfold vp_in; decide) d_X3_takeBack_146 ?_
  refine gb_iconst 1 d_X3_takeBack_147 rfl ?_
  refine gb_isub d_X3_takeBack_148 ?_
  refine gb_iast_ 0 rfl h_b1.2.2.2.2.1 (by unfold vp_in; decide) d_X3_takeBack_149 ?_
  have h := gb_let_e h
  generalize gb_pi g (b1 + 4) 0 ((g.1 (b1 + 4) 0) - 1) = g17 at h ⊢
  refine gb_pick (lv' := [(0, .ref b)]) [0] rfl ?_
  exact hK150 _  h
set_option maxRecDepth 100000 in
set_option maxHeartbeats 4000000 in
theorem t_X3_takeBack_100 {Γ : gb_X} {sh : List gb_Sh} {b : Nat} {b1 : Nat} {out : gb_G × Int32} (hS : gb_S sh) (h_b : gb_okX3 sh b) (h_b1 : gb_okX0 sh b1) {K150 : gb_G → Option (gb_G × Int32)} (hK150 : ∀ (g : gb_G) , K150 g  = some out → gb_J Γ M_X3_takeBack 3 (gb_Ri sh out) 0 0 sh g 150 [(0, .ref b)] []) : ∀ (n : Nat) (g : gb_G) (y3 : Int32), f_X3_takeBack_100 sh b b1 K150 n g y3 = some out → gb_J Γ M_X3_takeBack 3 (gb_Ri sh out) 0 0 sh g 100 [(0, .ref b), (1, .ref b1), (3, .int y3)] [] := by
  intro n
  induction n with
  | zero => intro g y3 h; cases h
  | succ n ih =>
    intro g y3 h
    rw [f_X3_takeBack_100] at h
    refine gb_iload_n d_X3_takeBack_100 rfl ?_
    refine gb_aload_n d_X3_takeBack_101 rfl ?_
    refine gb_geti f_X3_52 h_b1.1 rfl d_X3_takeBack_102 ?_
    refine gb_icmp_ge 140 d_X3_takeBack_105 (by decide) (fun hc => ?_) (fun hc => ?_)
    · have h := gb_it hc h
      refine gb_pick (lv' := [(0, .ref b), (1, .ref b1)]) [0, 1] rfl ?_
      exact t_X3_takeBack_140 hS h_b h_b1 hK150 _  h
    · have h := gb_if hc h
      refine gb_iload_n d_X3_takeBack_108 rfl ?_
      refine gb_bipush 8 d_X3_takeBack_109 rfl ?_
      refine gb_icmp_ge 140 d_X3_takeBack_111 (by decide) (fun hc => ?_) (fun hc => ?_)
      · have h := gb_it hc h
        refine gb_pick (lv' := [(0, .ref b), (1, .ref b1)]) [0, 1] rfl ?_
        exact t_X3_takeBack_140 hS h_b h_b1 hK150 _  h
      · have h := gb_if hc h
        refine gb_aload_n d_X3_takeBack_114 rfl ?_
        refine gb_iload_n d_X3_takeBack_115 rfl ?_
        refine gb_iconst 1 d_X3_takeBack_116 rfl ?_
        refine gb_aload_n d_X3_takeBack_117 rfl ?_
        refine gb_getr (r := (b + 4)) f_X3_25 h_b.1 rfl d_X3_takeBack_118 ?_
        refine gb_aload_n d_X3_takeBack_121 rfl ?_
        refine gb_geti f_X3_9 h_b.1 rfl d_X3_takeBack_122 ?_
        refine gb_bipush 8 d_X3_takeBack_125 rfl ?_
        refine gb_imul d_X3_takeBack_127 ?_
        refine gb_iload_n d_X3_takeBack_128 rfl ?_
        refine gb_iadd d_X3_takeBack_129 ?_
        obtain ⟨hi18, h⟩ := gb_ck_e h
        refine gb_iald_ ((((g.1 b 0) * 8) + y3).toNatClampNeg) rfl h_b.2.2.2.2 hi18 d_X3_takeBack_130 ?_
        obtain ⟨r19, e20, h⟩ := gb_bd_e h
        refine gb_cVv (As := [.int y3, .int 1, .int (g.1 (b + 4) ((((g.1 b 0) * 8) + y3).toNatClampNeg))]) (rest := []) m_X3_48 (t_X0_write (Γ := Γ) hS h_b1 e20) h_b1.1 rfl (Nat.le_of_ble_eq_true rfl) rfl rfl (Nat.le_of_ble_eq_true rfl) d_X3_takeBack_131 ?_
        refine gb_iinc (y3 + 1) [(3, .int (y3 + 1)), (0, .ref b), (1, .ref b1)] d_X3_takeBack_134 (Nat.le_of_ble_eq_true rfl) rfl rfl rfl ?_
        refine gb_goto 100 d_X3_takeBack_137 (by decide) ?_
        refine gb_pick (lv' := [(0, .ref b), (1, .ref b1), (3, .int (y3 + 1))]) [1, 2, 0] rfl ?_
        exact ih _ (y3 + 1) h
set_option maxRecDepth 100000 in
set_option maxHeartbeats 4000000 in
theorem t_X3_takeBack {Γ : gb_X} {sh : List gb_Sh} {b : Nat} {b1 : Nat} {out : gb_G × Int32} (hS : gb_S sh) (h_b : gb_okX3 sh b) (h_b1 : gb_okX0 sh b1) {g : gb_G} (h : f_X3_takeBack sh g b b1 = some out) : gb_C Γ M_X3_takeBack 3 0 0 sh g [.ref b, .ref b1] (gb_Ri sh out) := by
  refine gb_C.of rfl (Nat.le_of_ble_eq_true rfl) ?_
  refine gb_pick (lv' := [(0, .ref b), (1, .ref b1)]) [0, 1] rfl ?_
  unfold f_X3_takeBack at h
  refine gb_aload_n d_X3_takeBack_0 rfl ?_
  refine gb_iconst 0 d_X3_takeBack_1 rfl ?_
  refine gb_aload_n d_X3_takeBack_2 rfl ?_
  refine gb_geti f_X3_9 h_b.1 rfl d_X3_takeBack_3 ?_
  refine gb_iconst 1 d_X3_takeBack_6 rfl ?_
  refine gb_isub d_X3_takeBack_7 ?_
  obtain ⟨r1, e2, h⟩ := gb_bd_e h
  refine gb_cSi (As := [.int 0, .int ((g.1 b 0) - 1)]) (rest := [.ref b]) m_X3_43 (t_J9_max_7cf53 (Γ := Γ) hS e2) (Nat.le_of_ble_eq_true rfl) rfl rfl (Nat.le_of_ble_eq_true rfl) d_X3_takeBack_8 ?_
  refine gb_puti f_X3_9 (fun h => nomatch h) h_b.1 rfl rfl rfl d_X3_takeBack_11 ?_
  have h := gb_let_e h
  generalize gb_pi r1.1 b 0 r1.2 = g3 at h ⊢
  refine gb_aload_n d_X3_takeBack_14 rfl ?_
  refine gb_getr (r := (b + 2)) f_X3_19 h_b.1 rfl d_X3_takeBack_15 ?_
  refine gb_aload_n d_X3_takeBack_18 rfl ?_
  refine gb_geti f_X3_9 h_b.1 rfl d_X3_takeBack_19 ?_
  obtain ⟨hi4, h⟩ := gb_ck_e h
  refine gb_iald_ ((g3.1 b 0).toNatClampNeg) rfl h_b.2.2.1 hi4 d_X3_takeBack_22 ?_
  refine gb_istore_n [(2, .int (g3.1 (b + 2) ((g3.1 b 0).toNatClampNeg))), (0, .ref b), (1, .ref b1)] d_X3_takeBack_23 (Nat.le_of_ble_eq_true rfl) rfl ?_
  refine gb_aload_n d_X3_takeBack_24 rfl ?_
  refine gb_getr (r := (b + 1)) f_X3_15 h_b.1 rfl d_X3_takeBack_25 ?_
  refine gb_aload_n d_X3_takeBack_28 rfl ?_
  refine gb_geti f_X3_9 h_b.1 rfl d_X3_takeBack_29 ?_
  obtain ⟨hi5, h⟩ := gb_ck_e h
  refine gb_iald_ ((g3.1 b 0).toNatClampNeg) rfl h_b.2.1 hi5 d_X3_takeBack_32 ?_
  by_cases hc6 : (g3.1 (b + 1) ((g3.1 b 0).toNatClampNeg)) = 0
  · have h := gb_it hc6 h
    refine gb_tabI 60 hc6 d_X3_takeBack_33 (by decide) (by decide) rfl (by decide) ?_
    refine gb_aload_n d_X3_takeBack_60 rfl ?_
    refine gb_iload_n d_X3_takeBack_61 rfl ?_
    refine gb_iconst 5 d_X3_takeBack_62 rfl ?_
    refine gb_iconst 0 d_X3_takeBack_63 rfl ?_
    obtain ⟨r7, e8, h⟩ := gb_bd_e h
    refine gb_cVv (As := [.int (g3.1 (b + 2) ((g3.1 b 0).toNatClampNeg)), .int 5, .int 0]) (rest := []) m_X3_48 (t_X0_write (Γ := Γ) hS h_b1 e8) h_b1.1 rfl (Nat.le_of_ble_eq_true rfl) rfl rfl (Nat.le_of_ble_eq_true rfl) d_X3_takeBack_64 ?_
    refine gb_goto 150 d_X3_takeBack_67 (by decide) ?_
    refine gb_pick (lv' := [(0, .ref b)]) [1] rfl ?_
    exact t_X3_takeBack_150 hS h_b h_b1  _  h
  replace h := gb_if hc6 h
  by_cases hc10 : (g3.1 (b + 1) ((g3.1 b 0).toNatClampNeg)) = 1
  · have h := gb_it hc10 h
    refine gb_tabI 70 hc10 d_X3_takeBack_33 (by decide) (by decide) rfl (by decide) ?_
    refine gb_aload_n d_X3_takeBack_70 rfl ?_
    refine gb_iload_n d_X3_takeBack_71 rfl ?_
    refine gb_iconst 5 d_X3_takeBack_72 rfl ?_
    refine gb_iconst 1 d_X3_takeBack_73 rfl ?_
    obtain ⟨r11, e12, h⟩ := gb_bd_e h
    refine gb_cVv (As := [.int (g3.1 (b + 2) ((g3.1 b 0).toNatClampNeg)), .int 5, .int 1]) (rest := []) m_X3_48 (t_X0_write (Γ := Γ) hS h_b1 e12) h_b1.1 rfl (Nat.le_of_ble_eq_true rfl) rfl rfl (Nat.le_of_ble_eq_true rfl) d_X3_takeBack_74 ?_
    refine gb_goto 150 d_X3_takeBack_77 (by decide) ?_
    refine gb_pick (lv' := [(0, .ref b)]) [1] rfl ?_
    exact t_X3_takeBack_150 hS h_b h_b1  _  h
  replace h := gb_if hc10 h
  by_cases hc13 : (g3.1 (b + 1) ((g3.1 b 0).toNatClampNeg)) = 2
  · have h := gb_it hc13 h
    refine gb_tabI 80 hc13 d_X3_takeBack_33 (by decide) (by decide) rfl (by decide) ?_
    refine gb_aload_n d_X3_takeBack_80 rfl ?_
    refine gb_iload_n d_X3_takeBack_81 rfl ?_
    refine gb_iconst 2 d_X3_takeBack_82 rfl ?_
    refine gb_aload_n d_X3_takeBack_83 rfl ?_
    refine gb_getr (r := (b + 3)) f_X3_22 h_b.1 rfl d_X3_takeBack_84 ?_
    refine gb_aload_n d_X3_takeBack_87 rfl ?_
    refine gb_geti f_X3_9 h_b.1 rfl d_X3_takeBack_88 ?_
    obtain ⟨hi14, h⟩ := gb_ck_e h
    refine gb_iald_ ((g3.1 b 0).toNatClampNeg) rfl h_b.2.2.2.1 hi14 d_X3_takeBack_91 ?_
    obtain ⟨r15, e16, h⟩ := gb_bd_e h
    refine gb_cVv (As := [.int (g3.1 (b + 2) ((g3.1 b 0).toNatClampNeg)), .int 2, .int (g3.1 (b + 3) ((g3.1 b 0).toNatClampNeg))]) (rest := []) m_X3_48 (t_X0_write (Γ := Γ) hS h_b1 e16) h_b1.1 rfl (Nat.le_of_ble_eq_true rfl) rfl rfl (Nat.le_of_ble_eq_true rfl) d_X3_takeBack_92 ?_
    refine gb_goto 150 d_X3_takeBack_95 (by decide) ?_
    refine gb_pick (lv' := [(0, .ref b)]) [1] rfl ?_
    exact t_X3_takeBack_150 hS h_b h_b1  _  h
  replace h := gb_if hc13 h
  refine gb_tabO 98 d_X3_takeBack_33 (gb_out 3 (by decide) (by decide) (by decide) (fun i hi => match i, hi with | 0, _ => hc6 | 1, _ => hc10 | 2, _ => hc13 | q + 3, h9 => absurd h9 (Nat.not_lt.mpr (Nat.le_add_left _ _)))) (by decide) ?_
  refine gb_iconst 0 d_X3_takeBack_98 rfl ?_
  refine gb_istore_n [(3, .int 0), (2, .int (g3.1 (b + 2) ((g3.1 b 0).toNatClampNeg))), (0, .ref b), (1, .ref b1)] d_X3_takeBack_99 (Nat.le_of_ble_eq_true rfl) rfl ?_
  refine gb_pick (lv' := [(0, .ref b), (1, .ref b1), (3, .int 0)]) [2, 3, 0] rfl ?_
  exact t_X3_takeBack_100 hS h_b h_b1 (fun w  hw => t_X3_takeBack_150 hS h_b h_b1  w  hw) gb_N _ 0 h
