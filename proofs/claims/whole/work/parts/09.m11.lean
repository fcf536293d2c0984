-- X11_leastBy
noncomputable def f_X11_leastBy_33 (sh : List gb_Sh) (g : gb_G) (y1 : Int32) (y3 : Int32) (z0 : Int32) (z1 : Int32) : Option (gb_G × Int32) := gb_ck (z1 + z0) 900 (if (g.1 98 ((z1 + z0).toNatClampNeg)) = 100000000 then (some (g, 100000000)) else (gb_ck (8 + y1) 5520 (some (g, ((y3 * (g.1 79 ((8 + y1).toNatClampNeg))) + (g.1 98 ((z1 + z0).toNatClampNeg)))))))
noncomputable def f_X11_leastBy (sh : List gb_Sh) (g : gb_G) (x1 : Int32) (x2 : Int32) (x3 : Int32) : Option (gb_G × Int32) := gb_bd (f_X11_gladsOf sh g x1) (fun r1 => if 0 ≤ (x2 - (x3 * r1.2)) then (f_X11_leastBy_33 sh r1.1 x1 x3 (x2 - (x3 * r1.2)) ((100 * x1) + 100)) else (f_X11_leastBy_33 sh r1.1 x1 x3 0 ((100 * x1) + 100)))
set_option maxRecDepth 100000 in
set_option maxHeartbeats 4000000 in
theorem t_X11_leastBy_33 {Γ : gb_X} {sh : List gb_Sh} {out : gb_G × Int32} (hS : gb_S sh) : ∀ (g : gb_G) (y1 : Int32) (y3 : Int32) (z0 : Int32) (z1 : Int32), f_X11_leastBy_33 sh g y1 y3 z0 z1 = some out → gb_J Γ M_X11_leastBy 6 (gb_Ri sh out) 0 0 sh g 33 [(0, .ref 77), (1, .int y1), (3, .int y3)] [.int z0, .int z1, .ref 98] := by
  intro g y1 y3 z0 z1 h
  unfold f_X11_leastBy_33 at h
  refine gb_iadd d_X11_leastBy_33 ?_
  obtain ⟨hi3, h⟩ := gb_ck_e h
  refine gb_iald_ ((z1 + z0).toNatClampNeg) rfl (hS 98 _ rfl) hi3 d_X11_leastBy_34 ?_
  refine gb_istore [(5, .int (g.1 98 ((z1 + z0).toNatClampNeg))), (0, .ref 77), (1, .int y1), (3, .int y3)] d_X11_leastBy_35 (Nat.le_of_ble_eq_true rfl) rfl ?_
  refine gb_iload d_X11_leastBy_37 rfl ?_
  refine gb_ldcw 100000000 k_X11_461 d_X11_leastBy_39 ?_
  refine gb_icmp_ne 51 d_X11_leastBy_42 (by decide) (fun hc => ?_) (fun hc => ?_)
  · have h := gb_if hc h
    refine gb_iload_n d_X11_leastBy_51 rfl ?_
    refine gb_aload_n d_X11_leastBy_52 rfl ?_
    refine gb_getr (r := 79) f_X11_13 (hS 77 _ rfl) rfl d_X11_leastBy_53 ?_
    refine gb_bipush 8 d_X11_leastBy_56 rfl ?_
    refine gb_iload_n d_X11_leastBy_58 rfl ?_
    refine gb_iadd d_X11_leastBy_59 ?_
    obtain ⟨hi4, h⟩ := gb_ck_e h
    refine gb_iald_ ((8 + y1).toNatClampNeg) rfl (hS 79 _ rfl) hi4 d_X11_leastBy_60 ?_
    refine gb_imul d_X11_leastBy_61 ?_
    refine gb_iload d_X11_leastBy_62 rfl ?_
    refine gb_iadd d_X11_leastBy_64 ?_
    cases h
    exact gb_iret d_X11_leastBy_65 rfl ⟨rfl, rfl, rfl⟩
  · have h := gb_it hc h
    refine gb_ldcw 100000000 k_X11_461 d_X11_leastBy_45 ?_
    refine gb_goto 65 d_X11_leastBy_48 (by decide) ?_
    cases h
    exact gb_iret d_X11_leastBy_65 rfl ⟨rfl, rfl, rfl⟩
set_option maxRecDepth 100000 in
set_option maxHeartbeats 4000000 in
theorem t_X11_leastBy {Γ : gb_X} {sh : List gb_Sh} {x1 : Int32} {x2 : Int32} {x3 : Int32} {out : gb_G × Int32} (hS : gb_S sh) {g : gb_G} (h : f_X11_leastBy sh g x1 x2 x3 = some out) : gb_C Γ M_X11_leastBy 6 0 0 sh g [.ref 77, .int x1, .int x2, .int x3] (gb_Ri sh out) := by
  refine gb_C.of rfl (Nat.le_of_ble_eq_true rfl) ?_
  refine gb_pick (lv' := [(0, .ref 77), (1, .int x1), (2, .int x2), (3, .int x3)]) [0, 1, 2, 3] rfl ?_
  unfold f_X11_leastBy at h
  refine gb_iload_n d_X11_leastBy_0 rfl ?_
  refine gb_iload_n d_X11_leastBy_1 rfl ?_
  refine gb_aload_n d_X11_leastBy_2 rfl ?_
  refine gb_iload_n d_X11_leastBy_3 rfl ?_
  obtain ⟨r1, e2, h⟩ := gb_bd_e h
  refine gb_cVi (As := [.int x1]) (rest := [.int x3, .int x2]) m_X11_195 (t_X11_gladsOf (Γ := Γ) hS e2) (hS 77 _ rfl) rfl (Nat.le_of_ble_eq_true rfl) rfl rfl (Nat.le_of_ble_eq_true rfl) d_X11_leastBy_4 ?_
  refine gb_imul d_X11_leastBy_7 ?_
  refine gb_isub d_X11_leastBy_8 ?_
  refine gb_istore [(4, .int (x2 - (x3 * r1.2))), (0, .ref 77), (1, .int x1), (2, .int x2), (3, .int x3)] d_X11_leastBy_9 (Nat.le_of_ble_eq_true rfl) rfl ?_
  refine gb_aload_n d_X11_leastBy_11 rfl ?_
  refine gb_getr (r := 98) f_X11_110 (hS 77 _ rfl) rfl d_X11_leastBy_12 ?_
  refine gb_bipush 100 d_X11_leastBy_15 rfl ?_
  refine gb_iload_n d_X11_leastBy_17 rfl ?_
  refine gb_imul d_X11_leastBy_18 ?_
  refine gb_bipush 100 d_X11_leastBy_19 rfl ?_
  refine gb_iadd d_X11_leastBy_21 ?_
  refine gb_iload d_X11_leastBy_22 rfl ?_
  refine gb_if_ge 31 d_X11_leastBy_24 (by decide) (fun hc => ?_) (fun hc => ?_)
  · have h := gb_it hc h
    refine gb_iload d_X11_leastBy_31 rfl ?_
    refine gb_pick (lv' := [(0, .ref 77), (1, .int x1), (3, .int x3)]) [1, 2, 4] rfl ?_
    exact t_X11_leastBy_33 hS  _ x1 x3 (x2 - (x3 * r1.2)) ((100 * x1) + 100) h
  · have h := gb_if hc h
    refine gb_iconst 0 d_X11_leastBy_27 rfl ?_
    refine gb_goto 33 d_X11_leastBy_28 (by decide) ?_
    refine gb_pick (lv' := [(0, .ref 77), (1, .int x1), (3, .int x3)]) [1, 2, 4] rfl ?_
    exact t_X11_leastBy_33 hS  _ x1 x3 0 ((100 * x1) + 100) h
-- X11_mostOf
noncomputable def f_X11_mostOf (sh : List gb_Sh) (g : gb_G) (x1 : Int32) : Option (gb_G × Int32) := gb_ck (16 + x1) 5520 (if (g.1 79 ((16 + x1).toNatClampNeg)) = 1 then (some (g, 0)) else (gb_bd (f_X11_isBarred sh g x1) (fun r2 => if r2.2 = 0 then (some (r2.1, 9)) else (some (r2.1, 0)))))
set_option maxRecDepth 100000 in
set_option maxHeartbeats 4000000 in
theorem t_X11_mostOf {Γ : gb_X} {sh : List gb_Sh} {x1 : Int32} {out : gb_G × Int32} (hS : gb_S sh) {g : gb_G} (h : f_X11_mostOf sh g x1 = some out) : gb_C Γ M_X11_mostOf 6 0 0 sh g [.ref 77, .int x1] (gb_Ri sh out) := by
  refine gb_C.of rfl (Nat.le_of_ble_eq_true rfl) ?_
  refine gb_pick (lv' := [(0, .ref 77), (1, .int x1)]) [0, 1] rfl ?_
  unfold f_X11_mostOf at h
  refine gb_aload_n d_X11_mostOf_0 rfl ?_
  refine gb_getr (r := 79) f_X11_13 (hS 77 _ rfl) rfl d_X11_mostOf_1 ?_
  refine gb_bipush 16 d_X11_mostOf_4 rfl ?_
  refine gb_iload_n d_X11_mostOf_6 rfl ?_
  refine gb_iadd d_X11_mostOf_7 ?_
  obtain ⟨hi1, h⟩ := gb_ck_e h
  refine gb_iald_ ((16 + x1).toNatClampNeg) rfl (hS 79 _ rfl) hi1 d_X11_mostOf_8 ?_
  refine gb_iconst 1 d_X11_mostOf_9 rfl ?_
  refine gb_icmp_eq 21 d_X11_mostOf_10 (by decide) (fun hc => ?_) (fun hc => ?_)
  · have h := gb_it hc h
    refine gb_iconst 0 d_X11_mostOf_21 rfl ?_
    refine gb_goto 27 d_X11_mostOf_22 (by decide) ?_
    cases h
    exact gb_iret d_X11_mostOf_27 rfl ⟨rfl, rfl, rfl⟩
  · have h := gb_if hc h
    refine gb_aload_n d_X11_mostOf_13 rfl ?_
    refine gb_iload_n d_X11_mostOf_14 rfl ?_
    obtain ⟨r2, e3, h⟩ := gb_bd_e h
    refine gb_cVi (As := [.int x1]) (rest := []) m_X11_198 (t_X11_isBarred (Γ := Γ) hS e3) (hS 77 _ rfl) rfl (Nat.le_of_ble_eq_true rfl) rfl rfl (Nat.le_of_ble_eq_true rfl) d_X11_mostOf_15 ?_
    refine gb_if_eq 25 d_X11_mostOf_18 (by decide) (fun hc => ?_) (fun hc => ?_)
    · have h := gb_it hc h
      refine gb_bipush 9 d_X11_mostOf_25 rfl ?_
      cases h
      exact gb_iret d_X11_mostOf_27 rfl ⟨rfl, rfl, rfl⟩
    · have h := gb_if hc h
      refine gb_iconst 0 d_X11_mostOf_21 rfl ?_
      refine gb_goto 27 d_X11_mostOf_22 (by decide) ?_
      cases h
      exact gb_iret d_X11_mostOf_27 rfl ⟨rfl, rfl, rfl⟩
-- X11_glad
noncomputable def f_X11_glad_196 (sh : List gb_Sh) (g : gb_G) (y1 : Int32) : Option (gb_G × Int32) := gb_ck y1 900 (if (g.1 98 y1.toNatClampNeg) = 100000000 then (some (g, (-1))) else (gb_ck y1 900 (some (g, (g.1 98 y1.toNatClampNeg)))))
noncomputable def f_X11_glad_294 (sh : List gb_Sh) (K228 : gb_G → Int32 → Int32 → Int32 → Int32 → Option (gb_G × Int32)) (g : gb_G) (y2 : Int32) (y5 : Int32) (y6 : Int32) (z0 : Int32) : Option (gb_G × Int32) := K228 g y2 z0 y5 (y6 + 1)
noncomputable def f_X11_glad_237 (sh : List gb_Sh) (K228 : gb_G → Int32 → Int32 → Int32 → Int32 → Option (gb_G × Int32)) : Nat → gb_G → Int32 → Int32 → Int32 → Int32 → Option (gb_G × Int32)
  | 0, _, _, _, _, _ => none
  | n + 1, g, y2, y4, y5, y6 => gb_bd (f_X11_leastBy sh g y6 y4 y5) (fun r9 => gb_ck ((100 * y6) + y4) 900 (if r9.2 = (r9.1.1 98 (((100 * y6) + y4).toNatClampNeg)) then (gb_bd (f_X11_gladsOf sh r9.1 y6) (fun r12 => if 0 ≤ (y4 - (y5 * r12.2)) then (f_X11_glad_294 sh K228 r12.1 y2 y5 y6 (y4 - (y5 * r12.2))) else (f_X11_glad_294 sh K228 r12.1 y2 y5 y6 0))) else (f_X11_glad_237 sh K228 n r9.1 y2 y4 (y5 + 1) y6)))
noncomputable def f_X11_glad_228 (sh : List gb_Sh) : Nat → gb_G → Int32 → Int32 → Int32 → Int32 → Option (gb_G × Int32)
  | 0, _, _, _, _, _ => none
  | n + 1, g, y2, y4, y5, y6 => if y2 ≤ y6 then (some (g, y5)) else (f_X11_glad_237 sh (fun w w0 w1 w2 w3 => f_X11_glad_228 sh n w w0 w1 w2 w3) gb_N g y2 y4 0 y6)
noncomputable def f_X11_glad_145 (sh : List gb_Sh) (K112 : gb_G → Int32 → Int32 → Int32 → Int32 → Int32 → Int32 → Int32 → Option (gb_G × Int32)) (g : gb_G) (y1 : Int32) (y2 : Int32) (y4 : Int32) (y5 : Int32) (y6 : Int32) (y8 : Int32) (z0 : Int32) : Option (gb_G × Int32) := K112 g y1 y2 y4 y5 y6 z0 (y8 + 1)
noncomputable def f_X11_glad_112 (sh : List gb_Sh) (K98 : gb_G → Int32 → Int32 → Int32 → Int32 → Int32 → Option (gb_G × Int32)) : Nat → gb_G → Int32 → Int32 → Int32 → Int32 → Int32 → Int32 → Int32 → Option (gb_G × Int32)
  | 0, _, _, _, _, _, _, _, _ => none
  | n + 1, g, y1, y2, y4, y5, y6, y7, y8 => if y5 < y8 then (gb_ck ((100 * y4) + y6) 900 (gb_let (gb_pi g 98 (((100 * y4) + y6).toNatClampNeg) y7) (fun g17 => K98 g17 y1 y2 y4 y5 (y6 + 1)))) else (gb_bd (f_X11_leastBy sh g y4 y6 y8) (fun r18 => if y7 ≤ r18.2 then (f_X11_glad_145 sh (fun w w0 w1 w2 w3 w4 w5 w6 => f_X11_glad_112 sh K98 n w w0 w1 w2 w3 w4 w5 w6) r18.1 y1 y2 y4 y5 y6 y8 y7) else (f_X11_glad_145 sh (fun w w0 w1 w2 w3 w4 w5 w6 => f_X11_glad_112 sh K98 n w w0 w1 w2 w3 w4 w5 w6) r18.1 y1 y2 y4 y5 y6 y8 r18.2)))
noncomputable def f_X11_glad_98 (sh : List gb_Sh) (K82 : gb_G → Int32 → Int32 → Int32 → Option (gb_G × Int32)) : Nat → gb_G → Int32 → Int32 → Int32 → Int32 → Int32 → Option (gb_G × Int32)
  | 0, _, _, _, _, _, _ => none
  | n + 1, g, y1, y2, y4, y5, y6 => if y1 < y6 then (K82 g y1 y2 (y4 + (-1))) else (f_X11_glad_112 sh (fun w w0 w1 w2 w3 w4 => f_X11_glad_98 sh K82 n w w0 w1 w2 w3 w4) gb_N g y1 y2 y4 y5 y6 100000000 0)
noncomputable def f_X11_glad_82 (sh : List gb_Sh) : Nat → gb_G → Int32 → Int32 → Int32 → Option (gb_G × Int32)
  | 0, _, _, _, _ => none
  | n + 1, g, y1, y2, y4 => if y4 < 0 then (gb_ck y1 900 (if (g.1 98 y1.toNatClampNeg) = 100000000 then (f_X11_glad_196 sh g y1) else (if y2 = 0 then (f_X11_glad_196 sh g y1) else (f_X11_glad_228 sh gb_N g y2 y1 0 0)))) else (gb_bd (f_X11_mostOf sh g y4) (fun r14 => f_X11_glad_98 sh (fun w w0 w1 w2 => f_X11_glad_82 sh n w w0 w1 w2) gb_N r14.1 y1 y2 y4 r14.2 0))
noncomputable def f_X11_glad_70 (sh : List gb_Sh) (K40 : gb_G → Int32 → Int32 → Int32 → Int32 → Option (gb_G × Int32)) (g : gb_G) (y1 : Int32) (y2 : Int32) (y3 : Int32) (y4 : Int32) (z0 : Int32) (z1 : Int32) : Option (gb_G × Int32) := gb_ck z1 900 (gb_let (gb_pi g 98 z1.toNatClampNeg z0) (fun g21 => K40 g21 y1 y2 y3 (y4 + 1)))
noncomputable def f_X11_glad_40 (sh : List gb_Sh) : Nat → gb_G → Int32 → Int32 → Int32 → Int32 → Option (gb_G × Int32)
  | 0, _, _, _, _, _ => none
  | n + 1, g, y1, y2, y3, y4 => if 100 ≤ y4 then (f_X11_glad_82 sh gb_N g y1 y2 (y3 - 1)) else (if y4 = 0 then (f_X11_glad_70 sh (fun w w0 w1 w2 w3 => f_X11_glad_40 sh n w w0 w1 w2 w3) g y1 y2 y3 y4 0 ((100 * y3) + y4)) else (f_X11_glad_70 sh (fun w w0 w1 w2 w3 => f_X11_glad_40 sh n w w0 w1 w2 w3) g y1 y2 y3 y4 100000000 ((100 * y3) + y4)))
noncomputable def f_X11_glad (sh : List gb_Sh) (g : gb_G) (x1 : Int32) (x2 : Int32) : Option (gb_G × Int32) := gb_let (gb_pi g 77 0 0) (fun g1 => gb_bd (f_X11_in sh g1 x1.toInt64 0 99) (fun r2 => if r2.2 = 0 then (some (r2.1, (-1))) else (gb_bd (f_X11_in sh r2.1 x2.toInt64 0 ((g1.1 79 0).toInt64)) (fun r4 => if r4.2 = 0 then (some (r4.1, (-1))) else (f_X11_glad_40 sh gb_N r4.1 x1 x2 (g1.1 79 0) 0)))))
set_option maxRecDepth 100000 in
set_option maxHeartbeats 4000000 in
theorem t_X11_glad_196 {Γ : gb_X} {sh : List gb_Sh} {out : gb_G × Int32} (hS : gb_S sh) : ∀ (g : gb_G) (y1 : Int32), f_X11_glad_196 sh g y1 = some out → gb_J Γ M_X11_glad 7 (gb_Ri sh out) 0 0 sh g 196 [(0, .ref 77), (1, .int y1)] [] := by
  intro g y1 h
  unfold f_X11_glad_196 at h
  refine gb_aload_n d_X11_glad_196 rfl ?_
  refine gb_getr (r := 98) f_X11_110 (hS 77 _ rfl) rfl d_X11_glad_197 ?_
  refine gb_iload_n d_X11_glad_200 rfl ?_
  obtain ⟨hi7, h⟩ := gb_ck_e h
  refine gb_iald_ y1.toNatClampNeg rfl (hS 98 _ rfl) hi7 d_X11_glad_201 ?_
  refine gb_ldcw 100000000 k_X11_461 d_X11_glad_202 ?_
  refine gb_icmp_ne 212 d_X11_glad_205 (by decide) (fun hc => ?_) (fun hc => ?_)
  · have h := gb_if hc h
    refine gb_aload_n d_X11_glad_212 rfl ?_
    refine gb_getr (r := 98) f_X11_110 (hS 77 _ rfl) rfl d_X11_glad_213 ?_
    refine gb_iload_n d_X11_glad_216 rfl ?_
    obtain ⟨hi8, h⟩ := gb_ck_e h
    refine gb_iald_ y1.toNatClampNeg rfl (hS 98 _ rfl) hi8 d_X11_glad_217 ?_
    cases h
    exact gb_iret d_X11_glad_218 rfl ⟨rfl, rfl, rfl⟩
  · have h := gb_it hc h
    refine gb_iconst (-1) d_X11_glad_208 rfl ?_
    refine gb_goto 218 d_X11_glad_209 (by decide) ?_
    cases h
    exact gb_iret d_X11_glad_218 rfl ⟨rfl, rfl, rfl⟩
set_option maxRecDepth 100000 in
set_option maxHeartbeats 4000000 in
theorem t_X11_glad_294 {Γ : gb_X} {sh : List gb_Sh} {out : gb_G × Int32} (hS : gb_S sh) {K228 : gb_G → Int32 → Int32 → Int32 → Int32 → Option (gb_G × Int32)} (hK228 : ∀ (g : gb_G) (y2 : Int32) (y4 : Int32) (y5 : Int32) (y6 : Int32), K228 g y2 y4 y5 y6 = some out → gb_J Γ M_X11_glad 7 (gb_Ri sh out) 0 0 sh g 228 [(0, .ref 77), (2, .int y2), (4, .int y4), (5, .int y5), (6, .int y6)] []) : ∀ (g : gb_G) (y2 : Int32) (y5 : Int32) (y6 : Int32) (z0 : Int32), f_X11_glad_294 sh K228 g y2 y5 y6 z0 = some out → gb_J Γ M_X11_glad 7 (gb_Ri sh out) 0 0 sh g 294 [(0, .ref 77), (2, .int y2), (5, .int y5), (6, .int y6)] [.int z0] := by
  intro g y2 y5 y6 z0 h
  unfold f_X11_glad_294 at h
  refine gb_istore [(4, .int z0), (0, .ref 77), (2, .int y2), (5, .int y5), (6, .int y6)] d_X11_glad_294 (Nat.le_of_ble_eq_true rfl) rfl ?_
  refine gb_iinc (y6 + 1) [(6, .int (y6 + 1)), (4, .int z0), (0, .ref 77), (2, .int y2), (5, .int y5)] d_X11_glad_296 (Nat.le_of_ble_eq_true rfl) rfl rfl rfl ?_
  refine gb_goto 228 d_X11_glad_299 (by decide) ?_
  refine gb_pick (lv' := [(0, .ref 77), (2, .int y2), (4, .int z0), (5, .int y5), (6, .int (y6 + 1))]) [2, 3, 1, 4, 0] rfl ?_
  exact hK228 _ y2 z0 y5 (y6 + 1) h
set_option maxRecDepth 100000 in
set_option maxHeartbeats 4000000 in
theorem t_X11_glad_237 {Γ : gb_X} {sh : List gb_Sh} {out : gb_G × Int32} (hS : gb_S sh) {K228 : gb_G → Int32 → Int32 → Int32 → Int32 → Option (gb_G × Int32)} (hK228 : ∀ (g : gb_G) (y2 : Int32) (y4 : Int32) (y5 : Int32) (y6 : Int32), K228 g y2 y4 y5 y6 = some out → gb_J Γ M_X11_glad 7 (gb_Ri sh out) 0 0 sh g 228 [(0, .ref 77), (2, .int y2), (4, .int y4), (5, .int y5), (6, .int y6)] []) : ∀ (n : Nat) (g : gb_G) (y2 : Int32) (y4 : Int32) (y5 : Int32) (y6 : Int32), f_X11_glad_237 sh K228 n g y2 y4 y5 y6 = some out → gb_J Γ M_X11_glad 7 (gb_Ri sh out) 0 0 sh g 237 [(0, .ref 77), (2, .int y2), (4, .int y4), (5, .int y5), (6, .int y6)] [] := by
  intro n
  induction n with
  | zero => intro g y2 y4 y5 y6 h; cases h
  | succ n ih =>
    intro g y2 y4 y5 y6 h
    rw [f_X11_glad_237] at h
    refine gb_aload_n d_X11_glad_237 rfl ?_
    refine gb_iload d_X11_glad_238 rfl ?_
    refine gb_iload d_X11_glad_240 rfl ?_
    refine gb_iload d_X11_glad_242 rfl ?_
    obtain ⟨r9, e10, h⟩ := gb_bd_e h
    refine gb_cVi (As := [.int y6, .int y4, .int y5]) (rest := []) m_X11_465 (t_X11_leastBy (Γ := Γ) hS e10) (hS 77 _ rfl) rfl (Nat.le_of_ble_eq_true rfl) rfl rfl (Nat.le_of_ble_eq_true rfl) d_X11_glad_244 ?_
    refine gb_aload_n d_X11_glad_247 rfl ?_
    refine gb_getr (r := 98) f_X11_110 (hS 77 _ rfl) rfl d_X11_glad_248 ?_
    refine gb_bipush 100 d_X11_glad_251 rfl ?_
    refine gb_iload d_X11_glad_253 rfl ?_
    refine gb_imul d_X11_glad_255 ?_
    refine gb_iload d_X11_glad_256 rfl ?_
    refine gb_iadd d_X11_glad_258 ?_
    obtain ⟨hi11, h⟩ := gb_ck_e h
    refine gb_iald_ (((100 * y6) + y4).toNatClampNeg) rfl (hS 98 _ rfl) hi11 d_X11_glad_259 ?_
    refine gb_icmp_eq 269 d_X11_glad_260 (by decide) (fun hc => ?_) (fun hc => ?_)
    · have h := gb_it hc h
      refine gb_iload d_X11_glad_269 rfl ?_
      refine gb_iload d_X11_glad_271 rfl ?_
      refine gb_aload_n d_X11_glad_273 rfl ?_
      refine gb_iload d_X11_glad_274 rfl ?_
      obtain ⟨r12, e13, h⟩ := gb_bd_e h
      refine gb_cVi (As := [.int y6]) (rest := [.int y5, .int y4]) m_X11_195 (t_X11_gladsOf (Γ := Γ) hS e13) (hS 77 _ rfl) rfl (Nat.le_of_ble_eq_true rfl) rfl rfl (Nat.le_of_ble_eq_true rfl) d_X11_glad_276 ?_
      refine gb_imul d_X11_glad_279 ?_
      refine gb_isub d_X11_glad_280 ?_
      refine gb_istore [(4, .int (y4 - (y5 * r12.2))), (0, .ref 77), (2, .int y2), (5, .int y5), (6, .int y6)] d_X11_glad_281 (Nat.le_of_ble_eq_true rfl) rfl ?_
      refine gb_iload d_X11_glad_283 rfl ?_
      refine gb_if_ge 292 d_X11_glad_285 (by decide) (fun hc => ?_) (fun hc => ?_)
      · have h := gb_it hc h
        refine gb_iload d_X11_glad_292 rfl ?_
        refine gb_pick (lv' := [(0, .ref 77), (2, .int y2), (5, .int y5), (6, .int y6)]) [1, 2, 3, 4] rfl ?_
        exact t_X11_glad_294 hS hK228 _ y2 y5 y6 (y4 - (y5 * r12.2)) h
      · have h := gb_if hc h
        refine gb_iconst 0 d_X11_glad_288 rfl ?_
        refine gb_goto 294 d_X11_glad_289 (by decide) ?_
        refine gb_pick (lv' := [(0, .ref 77), (2, .int y2), (5, .int y5), (6, .int y6)]) [1, 2, 3, 4] rfl ?_
        exact t_X11_glad_294 hS hK228 _ y2 y5 y6 0 h
    · have h := gb_if hc h
      refine gb_iinc (y5 + 1) [(5, .int (y5 + 1)), (0, .ref 77), (2, .int y2), (4, .int y4), (6, .int y6)] d_X11_glad_263 (Nat.le_of_ble_eq_true rfl) rfl rfl rfl ?_
      refine gb_goto 237 d_X11_glad_266 (by decide) ?_
      refine gb_pick (lv' := [(0, .ref 77), (2, .int y2), (4, .int y4), (5, .int (y5 + 1)), (6, .int y6)]) [1, 2, 3, 0, 4] rfl ?_
      exact ih _ y2 y4 (y5 + 1) y6 h
set_option maxRecDepth 100000 in
set_option maxHeartbeats 4000000 in
theorem t_X11_glad_228 {Γ : gb_X} {sh : List gb_Sh} {out : gb_G × Int32} (hS : gb_S sh) : ∀ (n : Nat) (g : gb_G) (y2 : Int32) (y4 : Int32) (y5 : Int32) (y6 : Int32), f_X11_glad_228 sh n g y2 y4 y5 y6 = some out → gb_J Γ M_X11_glad 7 (gb_Ri sh out) 0 0 sh g 228 [(0, .ref 77), (2, .int y2), (4, .int y4), (5, .int y5), (6, .int y6)] [] := by
  intro n
  induction n with
  | zero => intro g y2 y4 y5 y6 h; cases h
  | succ n ih =>
    intro g y2 y4 y5 y6 h
    rw [f_X11_glad_228] at h
    refine gb_iload d_X11_glad_228 rfl ?_
    refine gb_iload_n d_X11_glad_230 rfl ?_
    refine gb_icmp_ge 302 d_X11_glad_231 (by decide) (fun hc => ?_) (fun hc => ?_)
    · have h := gb_it hc h
      refine gb_iload d_X11_glad_302 rfl ?_
      cases h
      exact gb_iret d_X11_glad_304 rfl ⟨rfl, rfl, rfl⟩
    · have h := gb_if hc h
      refine gb_iconst 0 d_X11_glad_234 rfl ?_
      refine gb_istore [(5, .int 0), (0, .ref 77), (2, .int y2), (4, .int y4), (6, .int y6)] d_X11_glad_235 (Nat.le_of_ble_eq_true rfl) rfl ?_
      refine gb_pick (lv' := [(0, .ref 77), (2, .int y2), (4, .int y4), (5, .int 0), (6, .int y6)]) [1, 2, 3, 0, 4] rfl ?_
      exact t_X11_glad_237 hS (fun w w0 w1 w2 w3 hw => ih w w0 w1 w2 w3 hw) gb_N _ y2 y4 0 y6 h
set_option maxRecDepth 100000 in
set_option maxHeartbeats 4000000 in
theorem t_X11_glad_145 {Γ : gb_X} {sh : List gb_Sh} {out : gb_G × Int32} (hS : gb_S sh) {K112 : gb_G → Int32 → Int32 → Int32 → Int32 → Int32 → Int32 → Int32 → Option (gb_G × Int32)} (hK112 : ∀ (g : gb_G) (y1 : Int32) (y2 : Int32) (y4 : Int32) (y5 : Int32) (y6 : Int32) (y7 : Int32) (y8 : Int32), K112 g y1 y2 y4 y5 y6 y7 y8 = some out → gb_J Γ M_X11_glad 7 (gb_Ri sh out) 0 0 sh g 112 [(0, .ref 77), (1, .int y1), (2, .int y2), (4, .int y4), (5, .int y5), (6, .int y6), (7, .int y7), (8, .int y8)] []) : ∀ (g : gb_G) (y1 : Int32) (y2 : Int32) (y4 : Int32) (y5 : Int32) (y6 : Int32) (y8 : Int32) (z0 : Int32), f_X11_glad_145 sh K112 g y1 y2 y4 y5 y6 y8 z0 = some out → gb_J Γ M_X11_glad 7 (gb_Ri sh out) 0 0 sh g 145 [(0, .ref 77), (1, .int y1), (2, .int y2), (4, .int y4), (5, .int y5), (6, .int y6), (8, .int y8)] [.int z0] := by
  intro g y1 y2 y4 y5 y6 y8 z0 h
  unfold f_X11_glad_145 at h
  refine gb_istore [(7, .int z0), (0, .ref 77), (1, .int y1), (2, .int y2), (4, .int y4), (5, .int y5), (6, .int y6), (8, .int y8)] d_X11_glad_145 (Nat.le_of_ble_eq_true rfl) rfl ?_
  refine gb_iinc (y8 + 1) [(8, .int (y8 + 1)), (7, .int z0), (0, .ref 77), (1, .int y1), (2, .int y2), (4, .int y4), (5, .int y5), (6, .int y6)] d_X11_glad_147 (Nat.le_of_ble_eq_true rfl) rfl rfl rfl ?_
  refine gb_goto 112 d_X11_glad_150 (by decide) ?_
  refine gb_pick (lv' := [(0, .ref 77), (1, .int y1), (2, .int y2), (4, .int y4), (5, .int y5), (6, .int y6), (7, .int z0), (8, .int (y8 + 1))]) [2, 3, 4, 5, 6, 7, 1, 0] rfl ?_
  exact hK112 _ y1 y2 y4 y5 y6 z0 (y8 + 1) h
set_option maxRecDepth 100000 in
set_option maxHeartbeats 4000000 in
theorem t_X11_glad_112 {Γ : gb_X} {sh : List gb_Sh} {out : gb_G × Int32} (hS : gb_S sh) {K98 : gb_G → Int32 → Int32 → Int32 → Int32 → Int32 → Option (gb_G × Int32)} (hK98 : ∀ (g : gb_G) (y1 : Int32) (y2 : Int32) (y4 : Int32) (y5 : Int32) (y6 : Int32), K98 g y1 y2 y4 y5 y6 = some out → gb_J Γ M_X11_glad 7 (gb_Ri sh out) 0 0 sh g 98 [(0, .ref 77), (1, .int y1), (2, .int y2), (4, .int y4), (5, .int y5), (6, .int y6)] []) : ∀ (n : Nat) (g : gb_G) (y1 : Int32) (y2 : Int32) (y4 : Int32) (y5 : Int32) (y6 : Int32) (y7 : Int32) (y8 : Int32), f_X11_glad_112 sh K98 n g y1 y2 y4 y5 y6 y7 y8 = some out → gb_J Γ M_X11_glad 7 (gb_Ri sh out) 0 0 sh g 112 [(0, .ref 77), (1, .int y1), (2, .int y2), (4, .int y4), (5, .int y5), (6, .int y6), (7, .int y7), (8, .int y8)] [] := by
  intro n
  induction n with
  | zero => intro g y1 y2 y4 y5 y6 y7 y8 h; cases h
  | succ n ih =>
    intro g y1 y2 y4 y5 y6 y7 y8 h
    rw [f_X11_glad_112] at h
    refine gb_iload d_X11_glad_112 rfl ?_
    refine gb_iload d_X11_glad_114 rfl ?_
    refine gb_icmp_gt 153 d_X11_glad_116 (by decide) (fun hc => ?_) (fun hc => ?_)
    · have h := gb_it hc h
      refine gb_aload_n d_X11_glad_153 rfl ?_
      refine gb_getr (r := 98) f_X11_110 (hS 77 _ rfl) rfl d_X11_glad_154 ?_
      refine gb_bipush 100 d_X11_glad_157 rfl ?_
      refine gb_iload d_X11_glad_159 rfl ?_
      refine gb_imul d_X11_glad_161 ?_
      refine gb_iload d_X11_glad_162 rfl ?_
      refine gb_iadd d_X11_glad_164 ?_
      refine gb_iload d_X11_glad_165 rfl ?_
      obtain ⟨hi16, h⟩ := gb_ck_e h
      refine gb_iast_ (((100 * y4) + y6).toNatClampNeg) rfl (hS 98 _ rfl) hi16 d_X11_glad_167 ?_
      have h := gb_let_e h
      generalize gb_pi g 98 (((100 * y4) + y6).toNatClampNeg) y7 = g17 at h ⊢
      refine gb_iinc (y6 + 1) [(6, .int (y6 + 1)), (0, .ref 77), (1, .int y1), (2, .int y2), (4, .int y4), (5, .int y5), (7, .int y7), (8, .int y8)] d_X11_glad_168 (Nat.le_of_ble_eq_true rfl) rfl rfl rfl ?_
      refine gb_goto 98 d_X11_glad_171 (by decide) ?_
      refine gb_pick (lv' := [(0, .ref 77), (1, .int y1), (2, .int y2), (4, .int y4), (5, .int y5), (6, .int (y6 + 1))]) [1, 2, 3, 4, 5, 0] rfl ?_
      exact hK98 _ y1 y2 y4 y5 (y6 + 1) h
    · have h := gb_if hc h
      refine gb_aload_n d_X11_glad_119 rfl ?_
      refine gb_iload d_X11_glad_120 rfl ?_
      refine gb_iload d_X11_glad_122 rfl ?_
      refine gb_iload d_X11_glad_124 rfl ?_
      obtain ⟨r18, e19, h⟩ := gb_bd_e h
      refine gb_cVi (As := [.int y4, .int y6, .int y8]) (rest := []) m_X11_465 (t_X11_leastBy (Γ := Γ) hS e19) (hS 77 _ rfl) rfl (Nat.le_of_ble_eq_true rfl) rfl rfl (Nat.le_of_ble_eq_true rfl) d_X11_glad_126 ?_
      refine gb_istore [(9, .int r18.2), (0, .ref 77), (1, .int y1), (2, .int y2), (4, .int y4), (5, .int y5), (6, .int y6), (7, .int y7), (8, .int y8)] d_X11_glad_129 (Nat.le_of_ble_eq_true rfl) rfl ?_
      refine gb_iload d_X11_glad_131 rfl ?_
      refine gb_iload d_X11_glad_133 rfl ?_
      refine gb_icmp_ge 143 d_X11_glad_135 (by decide) (fun hc => ?_) (fun hc => ?_)
      · have h := gb_it hc h
        refine gb_iload d_X11_glad_143 rfl ?_
        refine gb_pick (lv' := [(0, .ref 77), (1, .int y1), (2, .int y2), (4, .int y4), (5, .int y5), (6, .int y6), (8, .int y8)]) [1, 2, 3, 4, 5, 6, 8] rfl ?_
        exact t_X11_glad_145 hS (fun w w0 w1 w2 w3 w4 w5 w6 hw => ih w w0 w1 w2 w3 w4 w5 w6 hw) _ y1 y2 y4 y5 y6 y8 y7 h
      · have h := gb_if hc h
        refine gb_iload d_X11_glad_138 rfl ?_
        refine gb_goto 145 d_X11_glad_140 (by decide) ?_
        refine gb_pick (lv' := [(0, .ref 77), (1, .int y1), (2, .int y2), (4, .int y4), (5, .int y5), (6, .int y6), (8, .int y8)]) [1, 2, 3, 4, 5, 6, 8] rfl ?_
        exact t_X11_glad_145 hS (fun w w0 w1 w2 w3 w4 w5 w6 hw => ih w w0 w1 w2 w3 w4 w5 w6 hw) _ y1 y2 y4 y5 y6 y8 r18.2 h
set_option maxRecDepth 100000 in
set_option maxHeartbeats 4000000 in
theorem t_X11_glad_98 {Γ : gb_X} {sh : List gb_Sh} {out : gb_G × Int32} (hS : gb_S sh) {K82 : gb_G → Int32 → Int32 → Int32 → Option (gb_G × Int32)} (hK82 : ∀ (g : gb_G) (y1 : Int32) (y2 : Int32) (y4 : Int32), K82 g y1 y2 y4 = some out → gb_J Γ M_X11_glad 7 (gb_Ri sh out) 0 0 sh g 82 [(0, .ref 77), (1, .int y1), (2, .int y2), (4, .int y4)] []) : ∀ (n : Nat) (g : gb_G) (y1 : Int32) (y2 : Int32) (y4 : Int32) (y5 : Int32) (y6 : Int32), f_X11_glad_98 sh K82 n g y1 y2 y4 y5 y6 = some out → gb_J Γ M_X11_glad 7 (gb_Ri sh out) 0 0 sh g 98 [(0, .ref 77), (1, .int y1), (2, .int y2), (4, .int y4), (5, .int y5), (6, .int y6)] [] := by
  intro n
  induction n with
  | zero => intro g y1 y2 y4 y5 y6 h; cases h
  | succ n ih =>
    intro g y1 y2 y4 y5 y6 h
    rw [f_X11_glad_98] at h
    refine gb_iload d_X11_glad_98 rfl ?_
    refine gb_iload_n d_X11_glad_100 rfl ?_
    refine gb_icmp_gt 174 d_X11_glad_101 (by decide) (fun hc => ?_) (fun hc => ?_)
    · have h := gb_it hc h
      refine gb_iinc (y4 + (-1)) [(4, .int (y4 + (-1))), (0, .ref 77), (1, .int y1), (2, .int y2), (5, .int y5), (6, .int y6)] d_X11_glad_174 (Nat.le_of_ble_eq_true rfl) rfl rfl rfl ?_
      refine gb_goto 82 d_X11_glad_177 (by decide) ?_
      refine gb_pick (lv' := [(0, .ref 77), (1, .int y1), (2, .int y2), (4, .int (y4 + (-1)))]) [1, 2, 3, 0] rfl ?_
      exact hK82 _ y1 y2 (y4 + (-1)) h
    · have h := gb_if hc h
      refine gb_ldcw 100000000 k_X11_461 d_X11_glad_104 ?_
      refine gb_istore [(7, .int 100000000), (0, .ref 77), (1, .int y1), (2, .int y2), (4, .int y4), (5, .int y5), (6, .int y6)] d_X11_glad_107 (Nat.le_of_ble_eq_true rfl) rfl ?_
      refine gb_iconst 0 d_X11_glad_109 rfl ?_
      refine gb_istore [(8, .int 0), (7, .int 100000000), (0, .ref 77), (1, .int y1), (2, .int y2), (4, .int y4), (5, .int y5), (6, .int y6)] d_X11_glad_110 (Nat.le_of_ble_eq_true rfl) rfl ?_
      refine gb_pick (lv' := [(0, .ref 77), (1, .int y1), (2, .int y2), (4, .int y4), (5, .int y5), (6, .int y6), (7, .int 100000000), (8, .int 0)]) [2, 3, 4, 5, 6, 7, 1, 0] rfl ?_
      exact t_X11_glad_112 hS (fun w w0 w1 w2 w3 w4 hw => ih w w0 w1 w2 w3 w4 hw) gb_N _ y1 y2 y4 y5 y6 100000000 0 h
set_option maxRecDepth 100000 in
set_option maxHeartbeats 4000000 in
theorem t_X11_glad_82 {Γ : gb_X} {sh : List gb_Sh} {out : gb_G × Int32} (hS : gb_S sh) : ∀ (n : Nat) (g : gb_G) (y1 : Int32) (y2 : Int32) (y4 : Int32), f_X11_glad_82 sh n g y1 y2 y4 = some out → gb_J Γ M_X11_glad 7 (gb_Ri sh out) 0 0 sh g 82 [(0, .ref 77), (1, .int y1), (2, .int y2), (4, .int y4)] [] := by
  intro n
  induction n with
  | zero => intro g y1 y2 y4 h; cases h
  | succ n ih =>
    intro g y1 y2 y4 h
    rw [f_X11_glad_82] at h
    refine gb_iload d_X11_glad_82 rfl ?_
    refine gb_if_lt 180 d_X11_glad_84 (by decide) (fun hc => ?_) (fun hc => ?_)
    · have h := gb_it hc h
      refine gb_aload_n d_X11_glad_180 rfl ?_
      refine gb_getr (r := 98) f_X11_110 (hS 77 _ rfl) rfl d_X11_glad_181 ?_
      refine gb_iload_n d_X11_glad_184 rfl ?_
      obtain ⟨hi6, h⟩ := gb_ck_e h
      refine gb_iald_ y1.toNatClampNeg rfl (hS 98 _ rfl) hi6 d_X11_glad_185 ?_
      refine gb_ldcw 100000000 k_X11_461 d_X11_glad_186 ?_
      refine gb_icmp_eq 196 d_X11_glad_189 (by decide) (fun hc => ?_) (fun hc => ?_)
      · have h := gb_it hc h
        refine gb_pick (lv' := [(0, .ref 77), (1, .int y1)]) [0, 1] rfl ?_
        exact t_X11_glad_196 hS  _ y1 h
      · have h := gb_if hc h
        refine gb_iload_n d_X11_glad_192 rfl ?_
        refine gb_if_ne 219 d_X11_glad_193 (by decide) (fun hc => ?_) (fun hc => ?_)
        · have h := gb_if hc h
          refine gb_iload_n d_X11_glad_219 rfl ?_
          refine gb_istore [(4, .int y1), (0, .ref 77), (1, .int y1), (2, .int y2)] d_X11_glad_220 (Nat.le_of_ble_eq_true rfl) rfl ?_
          refine gb_iconst 0 d_X11_glad_222 rfl ?_
          refine gb_istore [(5, .int 0), (4, .int y1), (0, .ref 77), (1, .int y1), (2, .int y2)] d_X11_glad_223 (Nat.le_of_ble_eq_true rfl) rfl ?_
          refine gb_iconst 0 d_X11_glad_225 rfl ?_
          refine gb_istore [(6, .int 0), (5, .int 0), (4, .int y1), (0, .ref 77), (1, .int y1), (2, .int y2)] d_X11_glad_226 (Nat.le_of_ble_eq_true rfl) rfl ?_
          refine gb_pick (lv' := [(0, .ref 77), (2, .int y2), (4, .int y1), (5, .int 0), (6, .int 0)]) [3, 5, 2, 1, 0] rfl ?_
          exact t_X11_glad_228 hS  gb_N _ y2 y1 0 0 h
        · have h := gb_it hc h
          refine gb_pick (lv' := [(0, .ref 77), (1, .int y1)]) [0, 1] rfl ?_
          exact t_X11_glad_196 hS  _ y1 h
    · have h := gb_if hc h
      refine gb_aload_n d_X11_glad_87 rfl ?_
      refine gb_iload d_X11_glad_88 rfl ?_
      obtain ⟨r14, e15, h⟩ := gb_bd_e h
      refine gb_cVi (As := [.int y4]) (rest := []) m_X11_462 (t_X11_mostOf (Γ := Γ) hS e15) (hS 77 _ rfl) rfl (Nat.le_of_ble_eq_true rfl) rfl rfl (Nat.le_of_ble_eq_true rfl) d_X11_glad_90 ?_
      refine gb_istore [(5, .int r14.2), (0, .ref 77), (1, .int y1), (2, .int y2), (4, .int y4)] d_X11_glad_93 (Nat.le_of_ble_eq_true rfl) rfl ?_
      refine gb_iconst 0 d_X11_glad_95 rfl ?_
      refine gb_istore [(6, .int 0), (5, .int r14.2), (0, .ref 77), (1, .int y1), (2, .int y2), (4, .int y4)] d_X11_glad_96 (Nat.le_of_ble_eq_true rfl) rfl ?_
      refine gb_pick (lv' := [(0, .ref 77), (1, .int y1), (2, .int y2), (4, .int y4), (5, .int r14.2), (6, .int 0)]) [2, 3, 4, 5, 1, 0] rfl ?_
      exact t_X11_glad_98 hS (fun w w0 w1 w2 hw => ih w w0 w1 w2 hw) gb_N _ y1 y2 y4 r14.2 0 h
set_option maxRecDepth 100000 in
set_option maxHeartbeats 4000000 in
theorem t_X11_glad_70 {Γ : gb_X} {sh : List gb_Sh} {out : gb_G × Int32} (hS : gb_S sh) {K40 : gb_G → Int32 → Int32 → Int32 → Int32 → Option (gb_G × Int32)} (hK40 : ∀ (g : gb_G) (y1 : Int32) (y2 : Int32) (y3 : Int32) (y4 : Int32), K40 g y1 y2 y3 y4 = some out → gb_J Γ M_X11_glad 7 (gb_Ri sh out) 0 0 sh g 40 [(0, .ref 77), (1, .int y1), (2, .int y2), (3, .int y3), (4, .int y4)] []) : ∀ (g : gb_G) (y1 : Int32) (y2 : Int32) (y3 : Int32) (y4 : Int32) (z0 : Int32) (z1 : Int32), f_X11_glad_70 sh K40 g y1 y2 y3 y4 z0 z1 = some out → gb_J Γ M_X11_glad 7 (gb_Ri sh out) 0 0 sh g 70 [(0, .ref 77), (1, .int y1), (2, .int y2), (3, .int y3), (4, .int y4)] [.int z0, .int z1, .ref 98] := by
  intro g y1 y2 y3 y4 z0 z1 h
  unfold f_X11_glad_70 at h
  obtain ⟨hi20, h⟩ := gb_ck_e h
  refine gb_iast_ z1.toNatClampNeg rfl (hS 98 _ rfl) hi20 d_X11_glad_70 ?_
  have h := gb_let_e h
  generalize gb_pi g 98 z1.toNatClampNeg z0 = g21 at h ⊢
  refine gb_iinc (y4 + 1) [(4, .int (y4 + 1)), (0, .ref 77), (1, .int y1), (2, .int y2), (3, .int y3)] d_X11_glad_71 (Nat.le_of_ble_eq_true rfl) rfl rfl rfl ?_
  refine gb_goto 40 d_X11_glad_74 (by decide) ?_
  refine gb_pick (lv' := [(0, .ref 77), (1, .int y1), (2, .int y2), (3, .int y3), (4, .int (y4 + 1))]) [1, 2, 3, 4, 0] rfl ?_
  exact hK40 _ y1 y2 y3 (y4 + 1) h
set_option maxRecDepth 100000 in
set_option maxHeartbeats 4000000 in
theorem t_X11_glad_40 {Γ : gb_X} {sh : List gb_Sh} {out : gb_G × Int32} (hS : gb_S sh) : ∀ (n : Nat) (g : gb_G) (y1 : Int32) (y2 : Int32) (y3 : Int32) (y4 : Int32), f_X11_glad_40 sh n g y1 y2 y3 y4 = some out → gb_J Γ M_X11_glad 7 (gb_Ri sh out) 0 0 sh g 40 [(0, .ref 77), (1, .int y1), (2, .int y2), (3, .int y3), (4, .int y4)] [] := by
  intro n
  induction n with
  | zero => intro g y1 y2 y3 y4 h; cases h
  | succ n ih =>
    intro g y1 y2 y3 y4 h
    rw [f_X11_glad_40] at h
    refine gb_iload d_X11_glad_40 rfl ?_
    refine gb_bipush 100 d_X11_glad_42 rfl ?_
    refine gb_icmp_ge 77 d_X11_glad_44 (by decide) (fun hc => ?_) (fun hc => ?_)
    · have h := gb_it hc h
      refine gb_iload_n d_X11_glad_77 rfl ?_
      refine gb_iconst 1 d_X11_glad_78 rfl ?_
      refine gb_isub d_X11_glad_79 ?_
      refine gb_istore [(4, .int (y3 - 1)), (0, .ref 77), (1, .int y1), (2, .int y2), (3, .int y3)] d_X11_glad_80 (Nat.le_of_ble_eq_true rfl) rfl ?_
      refine gb_pick (lv' := [(0, .ref 77), (1, .int y1), (2, .int y2), (4, .int (y3 - 1))]) [1, 2, 3, 0] rfl ?_
      exact t_X11_glad_82 hS  gb_N _ y1 y2 (y3 - 1) h
    · have h := gb_if hc h
      refine gb_aload_n d_X11_glad_47 rfl ?_
      refine gb_getr (r := 98) f_X11_110 (hS 77 _ rfl) rfl d_X11_glad_48 ?_
      refine gb_bipush 100 d_X11_glad_51 rfl ?_
      refine gb_iload_n d_X11_glad_53 rfl ?_
      refine gb_imul d_X11_glad_54 ?_
      refine gb_iload d_X11_glad_55 rfl ?_
      refine gb_iadd d_X11_glad_57 ?_
      refine gb_iload d_X11_glad_58 rfl ?_
      refine gb_if_ne 67 d_X11_glad_60 (by decide) (fun hc => ?_) (fun hc => ?_)
      · have h := gb_if hc h
        refine gb_ldcw 100000000 k_X11_461 d_X11_glad_67 ?_
        exact t_X11_glad_70 hS (fun w w0 w1 w2 w3 hw => ih w w0 w1 w2 w3 hw) _ y1 y2 y3 y4 100000000 ((100 * y3) + y4) h
      · have h := gb_it hc h
        refine gb_iconst 0 d_X11_glad_63 rfl ?_
        refine gb_goto 70 d_X11_glad_64 (by decide) ?_
        exact t_X11_glad_70 hS (fun w w0 w1 w2 w3 hw => ih w w0 w1 w2 w3 hw) _ y1 y2 y3 y4 0 ((100 * y3) + y4) h
set_option maxRecDepth 100000 in
set_option maxHeartbeats 4000000 in
theorem t_X11_glad {Γ : gb_X} {sh : List gb_Sh} {x1 : Int32} {x2 : Int32} {out : gb_G × Int32} (hS : gb_S sh) {g : gb_G} (h : f_X11_glad sh g x1 x2 = some out) : gb_C Γ M_X11_glad 7 0 0 sh g [.ref 77, .int x1, .int x2] (gb_Ri sh out) := by
  refine gb_C.of rfl (Nat.le_of_ble_eq_true rfl) ?_
  refine gb_pick (lv' := [(0, .ref 77), (1, .int x1), (2, .int x2)]) [0, 1, 2] rfl ?_
  unfold f_X11_glad at h
  refine gb_aload_n d_X11_glad_0 rfl ?_
  refine gb_iconst 0 d_X11_glad_1 rfl ?_
  refine gb_puti f_X11_145 (fun h => nomatch h) (hS 77 _ rfl) rfl rfl rfl d_X11_glad_2 ?_
  have h := gb_let_e h
  generalize gb_pi g 77 0 0 = g1 at h ⊢
  refine gb_aload_n d_X11_glad_5 rfl ?_
  refine gb_getr (r := 79) f_X11_13 (hS 77 _ rfl) rfl d_X11_glad_6 ?_
  refine gb_iconst 0 d_X11_glad_9 rfl ?_
  refine gb_iald_ 0 rfl (hS 79 _ rfl) (by unfold vp_in; decide) d_X11_glad_10 ?_
  refine gb_istore_n [(3, .int (g1.1 79 0)), (0, .ref 77), (1, .int x1), (2, .int x2)] d_X11_glad_11 (Nat.le_of_ble_eq_true rfl) rfl ?_
  refine gb_iload_n d_X11_glad_12 rfl ?_
  refine gb_i2l d_X11_glad_13 ?_
  refine gb_lconst 0 d_X11_glad_14 rfl ?_
  refine gb_ldc2 99 k_X11_174 d_X11_glad_15 ?_
  obtain ⟨r2, e3, h⟩ := gb_bd_e h
  refine gb_cSi (As := [.long x1.toInt64, .long 0, .long 99]) (rest := []) m_X11_165 (t_X11_in (Γ := Γ) hS e3) (Nat.le_of_ble_eq_true rfl) rfl rfl (Nat.le_of_ble_eq_true rfl) d_X11_glad_18 ?_
  refine gb_if_eq 35 d_X11_glad_21 (by decide) (fun hc => ?_) (fun hc => ?_)
  · have h := gb_it hc h
    refine gb_iconst (-1) d_X11_glad_35 rfl ?_
    cases h
    exact gb_iret d_X11_glad_36 rfl ⟨rfl, rfl, rfl⟩
  · have h := gb_if hc h
    refine gb_iload_n d_X11_glad_24 rfl ?_
    refine gb_i2l d_X11_glad_25 ?_
    refine gb_lconst 0 d_X11_glad_26 rfl ?_
    refine gb_iload_n d_X11_glad_27 rfl ?_
    refine gb_i2l d_X11_glad_28 ?_
    obtain ⟨r4, e5, h⟩ := gb_bd_e h
    refine gb_cSi (As := [.long x2.toInt64, .long 0, .long ((g1.1 79 0).toInt64)]) (rest := []) m_X11_165 (t_X11_in (Γ := Γ) hS e5) (Nat.le_of_ble_eq_true rfl) rfl rfl (Nat.le_of_ble_eq_true rfl) d_X11_glad_29 ?_
    refine gb_if_ne 37 d_X11_glad_32 (by decide) (fun hc => ?_) (fun hc => ?_)
    · have h := gb_if hc h
      refine gb_iconst 0 d_X11_glad_37 rfl ?_
      refine gb_istore [(4, .int 0), (3, .int (g1.1 79 0)), (0, .ref 77), (1, .int x1), (2, .int x2)] d_X11_glad_38 (Nat.le_of_ble_eq_true rfl) rfl ?_
      refine gb_pick (lv' := [(0, .ref 77), (1, .int x1), (2, .int x2), (3, .int (g1.1 79 0)), (4, .int 0)]) [2, 3, 4, 1, 0] rfl ?_
      exact t_X11_glad_40 hS  gb_N _ x1 x2 (g1.1 79 0) 0 h
    · have h := gb_it hc h
      refine gb_iconst (-1) d_X11_glad_35 rfl ?_
      cases h
      exact gb_iret d_X11_glad_36 rfl ⟨rfl, rfl, rfl⟩
-- X11_placeOf
noncomputable def f_X11_placeOf (sh : List gb_Sh) (g : gb_G) (x1 : Int32) : Option (gb_G × Int32) := gb_bd (f_X11_pricedBy sh g x1) (fun r1 => gb_ck (48 + r1.2) 5520 (some (r1.1, (r1.1.1 79 ((48 + r1.2).toNatClampNeg)))))
set_option maxRecDepth 100000 in
set_option maxHeartbeats 4000000 in
theorem t_X11_placeOf {Γ : gb_X} {sh : List gb_Sh} {x1 : Int32} {out : gb_G × Int32} (hS : gb_S sh) {g : gb_G} (h : f_X11_placeOf sh g x1 = some out) : gb_C Γ M_X11_placeOf 1 0 0 sh g [.ref 77, .int x1] (gb_Ri sh out) := by
  refine gb_C.of rfl (Nat.le_of_ble_eq_true rfl) ?_
  refine gb_pick (lv' := [(0, .ref 77), (1, .int x1)]) [0, 1] rfl ?_
  unfold f_X11_placeOf at h
  refine gb_aload_n d_X11_placeOf_0 rfl ?_
  refine gb_getr (r := 79) f_X11_13 (hS 77 _ rfl) rfl d_X11_placeOf_1 ?_
  refine gb_bipush 48 d_X11_placeOf_4 rfl ?_
  refine gb_aload_n d_X11_placeOf_6 rfl ?_
  refine gb_iload_n d_X11_placeOf_7 rfl ?_
  obtain ⟨r1, e2, h⟩ := gb_bd_e h
  refine gb_cVi (As := [.int x1]) (rest := [.int 48, .ref 79]) m_X11_438 (t_X11_pricedBy (Γ := Γ) hS e2) (hS 77 _ rfl) rfl (Nat.le_of_ble_eq_true rfl) rfl rfl (Nat.le_of_ble_eq_true rfl) d_X11_placeOf_8 ?_
  refine gb_iadd d_X11_placeOf_11 ?_
  obtain ⟨hi3, h⟩ := gb_ck_e h
  refine gb_iald_ ((48 + r1.2).toNatClampNeg) rfl (hS 79 _ rfl) hi3 d_X11_placeOf_12 ?_
  cases h
  exact gb_iret d_X11_placeOf_13 rfl ⟨rfl, rfl, rfl⟩
-- X11_layRounds
noncomputable def f_X11_layRounds_131 (sh : List gb_Sh) (K11 : gb_G → Int32 → Int32 → Int32 → Option (gb_G)) (g : gb_G) (y1 : Int32) (y2 : Int32) (y3 : Int32) (y4 : Int32) : Option (gb_G) := gb_ck ((8 * y2) + y3) 2048 (gb_let (gb_pi g 99 (((8 * y2) + y3).toNatClampNeg) y4) (fun g2 => K11 g2 y1 y2 (y3 + 1)))
noncomputable def f_X11_layRounds_123 (sh : List gb_Sh) (K33 : gb_G → Int32 → Int32 → Int32 → Int32 → Int32 → Option (gb_G)) (g : gb_G) (y1 : Int32) (y2 : Int32) (y3 : Int32) (y5 : Int32) (z0 : Int32) : Option (gb_G) := K33 g y1 y2 y3 z0 (y5 + 1)
noncomputable def f_X11_layRounds_107 (sh : List gb_Sh) (K33 : gb_G → Int32 → Int32 → Int32 → Int32 → Int32 → Option (gb_G)) (g : gb_G) (y1 : Int32) (y2 : Int32) (y3 : Int32) (y4 : Int32) (y5 : Int32) (z0 : Int32) : Option (gb_G) := if y4 ≤ z0 then (f_X11_layRounds_123 sh K33 g y1 y2 y3 y5 y4) else (f_X11_layRounds_123 sh K33 g y1 y2 y3 y5 z0)
noncomputable def f_X11_layRounds_33 (sh : List gb_Sh) (K11 : gb_G → Int32 → Int32 → Int32 → Option (gb_G)) : Nat → gb_G → Int32 → Int32 → Int32 → Int32 → Int32 → Option (gb_G)
  | 0, _, _, _, _, _, _ => none
  | n + 1, g, y1, y2, y3, y4, y5 => if (g.1 79 0) ≤ y5 then (f_X11_layRounds_131 sh K11 g y1 y2 y3 y4) else (if (y2 &&& (y1 ^^^ (-1))) = 0 then (gb_bd (f_X11_is sh g y1 y3) (fun r3 => if r3.2 = 0 then (f_X11_layRounds_131 sh K11 r3.1 y1 y2 y3 y4) else (gb_bd (f_X11_is sh r3.1 y2 y5) (fun r5 => if r5.2 = 0 then (f_X11_layRounds_107 sh (fun w w0 w1 w2 w3 w4 => f_X11_layRounds_33 sh K11 n w w0 w1 w2 w3 w4) r5.1 y1 y2 y3 y4 y5 100000000) else (gb_bd (f_X11_placeOf sh r5.1 y3) (fun r7 => gb_bd (f_X11_placeOf sh r7.1 y5) (fun r9 => gb_bd (f_X11_stepsOf sh r9.1 r7.2 r9.2) (fun r11 => gb_ck ((8 * (y2 - (1 <<< (y5 &&& 31)))) + y5) 2048 (f_X11_layRounds_107 sh (fun w w0 w1 w2 w3 w4 => f_X11_layRounds_33 sh K11 n w w0 w1 w2 w3 w4) r11.1 y1 y2 y3 y4 y5 (r11.2 + (r11.1.1 99 (((8 * (y2 - (1 <<< (y5 &&& 31)))) + y5).toNatClampNeg)))))))))))) else (f_X11_layRounds_131 sh K11 g y1 y2 y3 y4))
noncomputable def f_X11_layRounds_28 (sh : List gb_Sh) (K11 : gb_G → Int32 → Int32 → Int32 → Option (gb_G)) (g : gb_G) (y1 : Int32) (y2 : Int32) (y3 : Int32) (z0 : Int32) : Option (gb_G) := f_X11_layRounds_33 sh K11 gb_N g y1 y2 y3 z0 0
noncomputable def f_X11_layRounds_11 (sh : List gb_Sh) (K2 : gb_G → Int32 → Int32 → Option (gb_G)) : Nat → gb_G → Int32 → Int32 → Int32 → Option (gb_G)
  | 0, _, _, _, _ => none
  | n + 1, g, y1, y2, y3 => if 8 ≤ y3 then (K2 g y1 (y2 + 1)) else (if y2 = 0 then (f_X11_layRounds_28 sh (fun w w0 w1 w2 => f_X11_layRounds_11 sh K2 n w w0 w1 w2) g y1 y2 y3 0) else (f_X11_layRounds_28 sh (fun w w0 w1 w2 => f_X11_layRounds_11 sh K2 n w w0 w1 w2) g y1 y2 y3 100000000))
noncomputable def f_X11_layRounds_2 (sh : List gb_Sh) : Nat → gb_G → Int32 → Int32 → Option (gb_G)
  | 0, _, _, _ => none
  | n + 1, g, y1, y2 => if 256 ≤ y2 then (some g) else (f_X11_layRounds_11 sh (fun w w0 w1 => f_X11_layRounds_2 sh n w w0 w1) gb_N g y1 y2 0)
noncomputable def f_X11_layRounds (sh : List gb_Sh) (g : gb_G) (x1 : Int32) : Option (gb_G) := f_X11_layRounds_2 sh gb_N g x1 0
set_option maxRecDepth 100000 in
set_option maxHeartbeats 4000000 in
theorem t_X11_layRounds_131 {Γ : gb_X} {sh : List gb_Sh} {out : gb_G} (hS : gb_S sh) {K11 : gb_G → Int32 → Int32 → Int32 → Option (gb_G)} (hK11 : ∀ (g : gb_G) (y1 : Int32) (y2 : Int32) (y3 : Int32), K11 g y1 y2 y3 = some out → gb_J Γ M_X11_layRounds 2 (gb_Rv sh out) 0 0 sh g 11 [(0, .ref 77), (1, .int y1), (2, .int y2), (3, .int y3)] []) : ∀ (g : gb_G) (y1 : Int32) (y2 : Int32) (y3 : Int32) (y4 : Int32), f_X11_layRounds_131 sh K11 g y1 y2 y3 y4 = some out → gb_J Γ M_X11_layRounds 2 (gb_Rv sh out) 0 0 sh g 131 [(0, .ref 77), (1, .int y1), (2, .int y2), (3, .int y3), (4, .int y4)] [] := by
  intro g y1 y2 y3 y4 h
  unfold f_X11_layRounds_131 at h
  refine gb_aload_n d_X11_layRounds_131 rfl ?_
  refine gb_getr (r := 99) f_X11_113 (hS 77 _ rfl) rfl d_X11_layRounds_132 ?_
  refine gb_bipush 8 d_X11_layRounds_135 rfl ?_
  refine gb_iload_n d_X11_layRounds_137 rfl ?_
  refine gb_imul d_X11_layRounds_138 ?_
  refine gb_iload_n d_X11_layRounds_139 rfl ?_
  refine gb_iadd d_X11_layRounds_140 ?_
  refine gb_iload d_X11_layRounds_141 rfl ?_
  obtain ⟨hi1, h⟩ := gb_ck_e h
  refine gb_iast_ (((8 * y2) + y3).toNatClampNeg) rfl (hS 99 _ rfl) hi1 d_X11_layRounds_143 ?_
  have h := gb_let_e h
  generalize gb_pi g 99 (((8 * y2) + y3).toNatClampNeg) y4 = g2 at h ⊢
  refine gb_iinc (y3 + 1) [(3, .int (y3 + 1)), (0, .ref 77), (1, .int y1), (2, .int y2), (4, .int y4)] d_X11_layRounds_144 (Nat.le_of_ble_eq_true rfl) rfl rfl rfl ?_
  refine gb_goto 11 d_X11_layRounds_147 (by decide) ?_
  refine gb_pick (lv' := [(0, .ref 77), (1, .int y1), (2, .int y2), (3, .int (y3 + 1))]) [1, 2, 3, 0] rfl ?_
  exact hK11 _ y1 y2 (y3 + 1) h
set_option maxRecDepth 100000 in
set_option maxHeartbeats 4000000 in
theorem t_X11_layRounds_123 {Γ : gb_X} {sh : List gb_Sh} {out : gb_G} (hS : gb_S sh) {K33 : gb_G → Int32 → Int32 → Int32 → Int32 → Int32 → Option (gb_G)} (hK33 : ∀ (g : gb_G) (y1 : Int32) (y2 : Int32) (y3 : Int32) (y4 : Int32) (y5 : Int32), K33 g y1 y2 y3 y4 y5 = some out → gb_J Γ M_X11_layRounds 2 (gb_Rv sh out) 0 0 sh g 33 [(0, .ref 77), (1, .int y1), (2, .int y2), (3, .int y3), (4, .int y4), (5, .int y5)] []) : ∀ (g : gb_G) (y1 : Int32) (y2 : Int32) (y3 : Int32) (y5 : Int32) (z0 : Int32), f_X11_layRounds_123 sh K33 g y1 y2 y3 y5 z0 = some out → gb_J Γ M_X11_layRounds 2 (gb_Rv sh out) 0 0 sh g 123 [(0, .ref 77), (1, .int y1), (2, .int y2), (3, .int y3), (5, .int y5)] [.int z0] := by
  intro g y1 y2 y3 y5 z0 h
  unfold f_X11_layRounds_123 at h
  refine gb_istore [(4, .int z0), (0, .ref 77), (1, .int y1), (2, .int y2), (3, .int y3), (5, .int y5)] d_X11_layRounds_123 (Nat.le_of_ble_eq_true rfl) rfl ?_
  refine gb_iinc (y5 + 1) [(5, .int (y5 + 1)), (4, .int z0), (0, .ref 77), (1, .int y1), (2, .int y2), (3, .int y3)] d_X11_layRounds_125 (Nat.le_of_ble_eq_true rfl) rfl rfl rfl ?_
  refine gb_goto 33 d_X11_layRounds_128 (by decide) ?_
  refine gb_pick (lv' := [(0, .ref 77), (1, .int y1), (2, .int y2), (3, .int y3), (4, .int z0), (5, .int (y5 + 1))]) [2, 3, 4, 5, 1, 0] rfl ?_
  exact hK33 _ y1 y2 y3 z0 (y5 + 1) h
set_option maxRecDepth 100000 in
set_option maxHeartbeats 4000000 in
theorem t_X11_layRounds_107 {Γ : gb_X} {sh : List gb_Sh} {out : gb_G} (hS : gb_S sh) {K33 : gb_G → Int32 → Int32 → Int32 → Int32 → Int32 → Option (gb_G)} (hK33 : ∀ (g : gb_G) (y1 : Int32) (y2 : Int32) (y3 : Int32) (y4 : Int32) (y5 : Int32), K33 g y1 y2 y3 y4 y5 = some out → gb_J Γ M_X11_layRounds 2 (gb_Rv sh out) 0 0 sh g 33 [(0, .ref 77), (1, .int y1), (2, .int y2), (3, .int y3), (4, .int y4), (5, .int y5)] []) : ∀ (g : gb_G) (y1 : Int32) (y2 : Int32) (y3 : Int32) (y4 : Int32) (y5 : Int32) (z0 : Int32), f_X11_layRounds_107 sh K33 g y1 y2 y3 y4 y5 z0 = some out → gb_J Γ M_X11_layRounds 2 (gb_Rv sh out) 0 0 sh g 107 [(0, .ref 77), (1, .int y1), (2, .int y2), (3, .int y3), (4, .int y4), (5, .int y5)] [.int z0] := by
  intro g y1 y2 y3 y4 y5 z0 h
  unfold f_X11_layRounds_107 at h
  refine gb_istore [(6, .int z0), (0, .ref 77), (1, .int y1), (2, .int y2), (3, .int y3), (4, .int y4), (5, .int y5)] d_X11_layRounds_107 (Nat.le_of_ble_eq_true rfl) rfl ?_
  refine gb_iload d_X11_layRounds_109 rfl ?_
  refine gb_iload d_X11_layRounds_111 rfl ?_
  refine gb_icmp_ge 121 d_X11_layRounds_113 (by decide) (fun hc => ?_) (fun hc => ?_)
  · have h := gb_it hc h
    refine gb_iload d_X11_layRounds_121 rfl ?_
    refine gb_pick (lv' := [(0, .ref 77), (1, .int y1), (2, .int y2), (3, .int y3), (5, .int y5)]) [1, 2, 3, 4, 6] rfl ?_
    exact t_X11_layRounds_123 hS hK33 _ y1 y2 y3 y5 y4 h
  · have h := gb_if hc h
    refine gb_iload d_X11_layRounds_116 rfl ?_
    refine gb_goto 123 d_X11_layRounds_118 (by decide) ?_
    refine gb_pick (lv' := [(0, .ref 77), (1, .int y1), (2, .int y2), (3, .int y3), (5, .int y5)]) [1, 2, 3, 4, 6] rfl ?_
    exact t_X11_layRounds_123 hS hK33 _ y1 y2 y3 y5 z0 h
set_option maxRecDepth 100000 in
set_option maxHeartbeats 4000000 in
theorem t_X11_layRounds_33 {Γ : gb_X} {sh : List gb_Sh} {out : gb_G} (hS : gb_S sh) {K11 : gb_G → Int32 → Int32 → Int32 → Option (gb_G)} (hK11 : ∀ (g : gb_G) (y1 : Int32) (y2 : Int32) (y3 : Int32), K11 g y1 y2 y3 = some out → gb_J Γ M_X11_layRounds 2 (gb_Rv sh out) 0 0 sh g 11 [(0, .ref 77), (1, .int y1), (2, .int y2), (3, .int y3)] []) : ∀ (n : Nat) (g : gb_G) (y1 : Int32) (y2 : Int32) (y3 : Int32) (y4 : Int32) (y5 : Int32), f_X11_layRounds_33 sh K11 n g y1 y2 y3 y4 y5 = some out → gb_J Γ M_X11_layRounds 2 (gb_Rv sh out) 0 0 sh g 33 [(0, .ref 77), (1, .int y1), (2, .int y2), (3, .int y3), (4, .int y4), (5, .int y5)] [] := by
  intro n
  induction n with
  | zero => intro g y1 y2 y3 y4 y5 h; cases h
  | succ n ih =>
    intro g y1 y2 y3 y4 y5 h
    rw [f_X11_layRounds_33] at h
    refine gb_iload d_X11_layRounds_33 rfl ?_
    refine gb_aload_n d_X11_layRounds_35 rfl ?_
    refine gb_getr (r := 79) f_X11_13 (hS 77 _ rfl) rfl d_X11_layRounds_36 ?_
    refine gb_iconst 0 d_X11_layRounds_39 rfl ?_
    refine gb_iald_ 0 rfl (hS 79 _ rfl) (by unfold vp_in; decide) d_X11_layRounds_40 ?_
    refine gb_icmp_ge 131 d_X11_layRounds_41 (by decide) (fun hc => ?_) (fun hc => ?_)
    · have h := gb_it hc h
      refine gb_pick (lv' := [(0, .ref 77), (1, .int y1), (2, .int y2), (3, .int y3), (4, .int y4)]) [0, 1, 2, 3, 4] rfl ?_
      exact t_X11_layRounds_131 hS hK11 _ y1 y2 y3 y4 h
    · have h := gb_if hc h
      refine gb_iload_n d_X11_layRounds_44 rfl ?_
      refine gb_iload_n d_X11_layRounds_45 rfl ?_
      refine gb_iconst (-1) d_X11_layRounds_46 rfl ?_
      refine gb_ixor d_X11_layRounds_47 ?_
      refine gb_iand d_X11_layRounds_48 ?_
      refine gb_if_ne 131 d_X11_layRounds_49 (by decide) (fun hc => ?_) (fun hc => ?_)
      · have h := gb_if hc h
        refine gb_pick (lv' := [(0, .ref 77), (1, .int y1), (2, .int y2), (3, .int y3), (4, .int y4)]) [0, 1, 2, 3, 4] rfl ?_
        exact t_X11_layRounds_131 hS hK11 _ y1 y2 y3 y4 h
      · have h := gb_it hc h
        refine gb_iload_n d_X11_layRounds_52 rfl ?_
        refine gb_iload_n d_X11_layRounds_53 rfl ?_
        obtain ⟨r3, e4, h⟩ := gb_bd_e h
        refine gb_cSi (As := [.int y1, .int y3]) (rest := []) m_X11_469 (t_X11_is (Γ := Γ) hS e4) (Nat.le_of_ble_eq_true rfl) rfl rfl (Nat.le_of_ble_eq_true rfl) d_X11_layRounds_54 ?_
        refine gb_if_eq 131 d_X11_layRounds_57 (by decide) (fun hc => ?_) (fun hc => ?_)
        · have h := gb_it hc h
          refine gb_pick (lv' := [(0, .ref 77), (1, .int y1), (2, .int y2), (3, .int y3), (4, .int y4)]) [0, 1, 2, 3, 4] rfl ?_
          exact t_X11_layRounds_131 hS hK11 _ y1 y2 y3 y4 h
        · have h := gb_if hc h
          refine gb_iload_n d_X11_layRounds_60 rfl ?_
          refine gb_iload d_X11_layRounds_61 rfl ?_
          obtain ⟨r5, e6, h⟩ := gb_bd_e h
          refine gb_cSi (As := [.int y2, .int y5]) (rest := []) m_X11_469 (t_X11_is (Γ := Γ) hS e6) (Nat.le_of_ble_eq_true rfl) rfl rfl (Nat.le_of_ble_eq_true rfl) d_X11_layRounds_63 ?_
          refine gb_if_eq 104 d_X11_layRounds_66 (by decide) (fun hc => ?_) (fun hc => ?_)
          · have h := gb_it hc h
            refine gb_ldcw 100000000 k_X11_461 d_X11_layRounds_104 ?_
            exact t_X11_layRounds_107 hS (fun w w0 w1 w2 w3 w4 hw => ih w w0 w1 w2 w3 w4 hw) _ y1 y2 y3 y4 y5 100000000 h
          · have h := gb_if hc h
            refine gb_aload_n d_X11_layRounds_69 rfl ?_
            refine gb_iload_n d_X11_layRounds_70 rfl ?_
            obtain ⟨r7, e8, h⟩ := gb_bd_e h
            refine gb_cVi (As := [.int y3]) (rest := []) m_X11_473 (t_X11_placeOf (Γ := Γ) hS e8) (hS 77 _ rfl) rfl (Nat.le_of_ble_eq_true rfl) rfl rfl (Nat.le_of_ble_eq_true rfl) d_X11_layRounds_71 ?_
            refine gb_aload_n d_X11_layRounds_74 rfl ?_
            refine gb_iload d_X11_layRounds_75 rfl ?_
            obtain ⟨r9, e10, h⟩ := gb_bd_e h
            refine gb_cVi (As := [.int y5]) (rest := [.int r7.2]) m_X11_473 (t_X11_placeOf (Γ := Γ) hS e10) (hS 77 _ rfl) rfl (Nat.le_of_ble_eq_true rfl) rfl rfl (Nat.le_of_ble_eq_true rfl) d_X11_layRounds_77 ?_
            obtain ⟨r11, e12, h⟩ := gb_bd_e h
            refine gb_cSi (As := [.int r7.2, .int r9.2]) (rest := []) m_X11_476 (t_X11_stepsOf (Γ := Γ) hS e12) (Nat.le_of_ble_eq_true rfl) rfl rfl (Nat.le_of_ble_eq_true rfl) d_X11_layRounds_80 ?_
            refine gb_aload_n d_X11_layRounds_83 rfl ?_
            refine gb_getr (r := 99) f_X11_113 (hS 77 _ rfl) rfl d_X11_layRounds_84 ?_
            refine gb_bipush 8 d_X11_layRounds_87 rfl ?_
            refine gb_iload_n d_X11_layRounds_89 rfl ?_
            refine gb_iconst 1 d_X11_layRounds_90 rfl ?_
            refine gb_iload d_X11_layRounds_91 rfl ?_
            refine gb_ishl d_X11_layRounds_93 ?_
            refine gb_isub d_X11_layRounds_94 ?_
            refine gb_imul d_X11_layRounds_95 ?_
            refine gb_iload d_X11_layRounds_96 rfl ?_
            refine gb_iadd d_X11_layRounds_98 ?_
            obtain ⟨hi13, h⟩ := gb_ck_e h
            refine gb_iald_ (((8 * (y2 - (1 <<< (y5 &&& 31)))) + y5).toNatClampNeg) rfl (hS 99 _ rfl) hi13 d_X11_layRounds_99 ?_
            refine gb_iadd d_X11_layRounds_100 ?_
            refine gb_goto 107 d_X11_layRounds_101 (by decide) ?_
            exact t_X11_layRounds_107 hS (fun w w0 w1 w2 w3 w4 hw => ih w w0 w1 w2 w3 w4 hw) _ y1 y2 y3 y4 y5 (r11.2 + (r11.1.1 99 (((8 * (y2 - (1 <<< (y5 &&& 31)))) + y5).toNatClampNeg))) h
set_option maxRecDepth 100000 in
set_option maxHeartbeats 4000000 in
theorem t_X11_layRounds_28 {Γ : gb_X} {sh : List gb_Sh} {out : gb_G} (hS : gb_S sh) {K11 : gb_G → Int32 → Int32 → Int32 → Option (gb_G)} (hK11 : ∀ (g : gb_G) (y1 : Int32) (y2 : Int32) (y3 : Int32), K11 g y1 y2 y3 = some out → gb_J Γ M_X11_layRounds 2 (gb_Rv sh out) 0 0 sh g 11 [(0, .ref 77), (1, .int y1), (2, .int y2), (3, .int y3)] []) : ∀ (g : gb_G) (y1 : Int32) (y2 : Int32) (y3 : Int32) (z0 : Int32), f_X11_layRounds_28 sh K11 g y1 y2 y3 z0 = some out → gb_J Γ M_X11_layRounds 2 (gb_Rv sh out) 0 0 sh g 28 [(0, .ref 77), (1, .int y1), (2, .int y2), (3, .int y3)] [.int z0] := by
  intro g y1 y2 y3 z0 h
  unfold f_X11_layRounds_28 at h
  refine gb_istore [(4, .int z0), (0, .ref 77), (1, .int y1), (2, .int y2), (3, .int y3)] d_X11_layRounds_28 (Nat.le_of_ble_eq_true rfl) rfl ?_
  refine gb_iconst 0 d_X11_layRounds_30 rfl ?_
  refine gb_istore [(5, .int 0), (4, .int z0), (0, .ref 77), (1, .int y1), (2, .int y2), (3, .int y3)] d_X11_layRounds_31 (Nat.le_of_ble_eq_true rfl) rfl ?_
  refine gb_pick (lv' := [(0, .ref 77), (1, .int y1), (2, .int y2), (3, .int y3), (4, .int z0), (5, .int 0)]) [2, 3, 4, 5, 1, 0] rfl ?_
  exact t_X11_layRounds_33 hS hK11 gb_N _ y1 y2 y3 z0 0 h
set_option maxRecDepth 100000 in
set_option maxHeartbeats 4000000 in
theorem t_X11_layRounds_11 {Γ : gb_X} {sh : List gb_Sh} {out : gb_G} (hS : gb_S sh) {K2 : gb_G → Int32 → Int32 → Option (gb_G)} (hK2 : ∀ (g : gb_G) (y1 : Int32) (y2 : Int32), K2 g y1 y2 = some out → gb_J Γ M_X11_layRounds 2 (gb_Rv sh out) 0 0 sh g 2 [(0, .ref 77), (1, .int y1), (2, .int y2)] []) : ∀ (n : Nat) (g : gb_G) (y1 : Int32) (y2 : Int32) (y3 : Int32), f_X11_layRounds_11 sh K2 n g y1 y2 y3 = some out → gb_J Γ M_X11_layRounds 2 (gb_Rv sh out) 0 0 sh g 11 [(0, .ref 77), (1, .int y1), (2, .int y2), (3, .int y3)] [] := by
  intro n
  induction n with
  | zero => intro g y1 y2 y3 h; cases h
  | succ n ih =>
    intro g y1 y2 y3 h
    rw [f_X11_layRounds_11] at h
    refine gb_iload_n d_X11_layRounds_11 rfl ?_
    refine gb_bipush 8 d_X11_layRounds_12 rfl ?_
    refine gb_icmp_ge 150 d_X11_layRounds_14 (by decide) (fun hc => ?_) (fun hc => ?_)
    · have h := gb_it hc h
      refine gb_iinc (y2 + 1) [(2, .int (y2 + 1)), (0, .ref 77), (1, .int y1), (3, .int y3)] d_X11_layRounds_150 (Nat.le_of_ble_eq_true rfl) rfl rfl rfl ?_
      refine gb_goto 2 d_X11_layRounds_153 (by decide) ?_
      refine gb_pick (lv' := [(0, .ref 77), (1, .int y1), (2, .int (y2 + 1))]) [1, 2, 0] rfl ?_
      exact hK2 _ y1 (y2 + 1) h
    · have h := gb_if hc h
      refine gb_iload_n d_X11_layRounds_17 rfl ?_
      refine gb_if_ne 25 d_X11_layRounds_18 (by decide) (fun hc => ?_) (fun hc => ?_)
      · have h := gb_if hc h
        refine gb_ldcw 100000000 k_X11_461 d_X11_layRounds_25 ?_
        exact t_X11_layRounds_28 hS (fun w w0 w1 w2 hw => ih w w0 w1 w2 hw) _ y1 y2 y3 100000000 h
      · have h := gb_it hc h
        refine gb_iconst 0 d_X11_layRounds_21 rfl ?_
        refine gb_goto 28 d_X11_layRounds_22 (by decide) ?_
        exact t_X11_layRounds_28 hS (fun w w0 w1 w2 hw => ih w w0 w1 w2 hw) _ y1 y2 y3 0 h
set_option maxRecDepth 100000 in
set_option maxHeartbeats 4000000 in
theorem t_X11_layRounds_2 {Γ : gb_X} {sh : List gb_Sh} {out : gb_G} (hS : gb_S sh) : ∀ (n : Nat) (g : gb_G) (y1 : Int32) (y2 : Int32), f_X11_layRounds_2 sh n g y1 y2 = some out → gb_J Γ M_X11_layRounds 2 (gb_Rv sh out) 0 0 sh g 2 [(0, .ref 77), (1, .int y1), (2, .int y2)] [] := by
  intro n
  induction n with
  | zero => intro g y1 y2 h; cases h
  | succ n ih =>
    intro g y1 y2 h
    rw [f_X11_layRounds_2] at h
    refine gb_iload_n d_X11_layRounds_2 rfl ?_
    refine gb_sipush 256 d_X11_layRounds_3 rfl ?_
    refine gb_icmp_ge 156 d_X11_layRounds_6 (by decide) (fun hc => ?_) (fun hc => ?_)
    · have h := gb_it hc h
      cases h
      exact gb_vret d_X11_layRounds_156 rfl ⟨rfl, rfl, rfl⟩
    · have h := gb_if hc h
      refine gb_iconst 0 d_X11_layRounds_9 rfl ?_
      refine gb_istore_n [(3, .int 0), (0, .ref 77), (1, .int y1), (2, .int y2)] d_X11_layRounds_10 (Nat.le_of_ble_eq_true rfl) rfl ?_
      refine gb_pick (lv' := [(0, .ref 77), (1, .int y1), (2, .int y2), (3, .int 0)]) [1, 2, 3, 0] rfl ?_
      exact t_X11_layRounds_11 hS (fun w w0 w1 hw => ih w w0 w1 hw) gb_N _ y1 y2 0 h
set_option maxRecDepth 100000 in
set_option maxHeartbeats 4000000 in
theorem t_X11_layRounds {Γ : gb_X} {sh : List gb_Sh} {x1 : Int32} {out : gb_G} (hS : gb_S sh) {g : gb_G} (h : f_X11_layRounds sh g x1 = some out) : gb_C Γ M_X11_layRounds 2 0 0 sh g [.ref 77, .int x1] (gb_Rv sh out) := by
  refine gb_C.of rfl (Nat.le_of_ble_eq_true rfl) ?_
  refine gb_pick (lv' := [(0, .ref 77), (1, .int x1)]) [0, 1] rfl ?_
  unfold f_X11_layRounds at h
  refine gb_iconst 0 d_X11_layRounds_0 rfl ?_
  refine gb_istore_n [(2, .int 0), (0, .ref 77), (1, .int x1)] d_X11_layRounds_1 (Nat.le_of_ble_eq_true rfl) rfl ?_
  refine gb_pick (lv' := [(0, .ref 77), (1, .int x1), (2, .int 0)]) [1, 2, 0] rfl ?_
  exact t_X11_layRounds_2 hS  gb_N _ x1 0 h
-- X11_fromPlace
noncomputable def f_X11_fromPlace (sh : List gb_Sh) (g : gb_G) (x1 : Int32) (x2 : Int32) (x3 : Int32) : Option (gb_G × Int32) := gb_bd (f_X11_is sh g x2 x3) (fun r1 => if r1.2 = 0 then (some (r1.1, 100000000)) else (gb_bd (f_X11_placeOf sh r1.1 x3) (fun r3 => gb_bd (f_X11_stepsOf sh r3.1 x1 r3.2) (fun r5 => gb_ck ((8 * (x2 - (1 <<< (x3 &&& 31)))) + x3) 2048 (some (r5.1, (r5.2 + (r5.1.1 99 (((8 * (x2 - (1 <<< (x3 &&& 31)))) + x3).toNatClampNeg)))))))))
set_option maxRecDepth 100000 in
set_option maxHeartbeats 4000000 in
theorem t_X11_fromPlace {Γ : gb_X} {sh : List gb_Sh} {x1 : Int32} {x2 : Int32} {x3 : Int32} {out : gb_G × Int32} (hS : gb_S sh) {g : gb_G} (h : f_X11_fromPlace sh g x1 x2 x3 = some out) : gb_C Γ M_X11_fromPlace 2 0 0 sh g [.ref 77, .int x1, .int x2, .int x3] (gb_Ri sh out) := by
  refine gb_C.of rfl (Nat.le_of_ble_eq_true rfl) ?_
  refine gb_pick (lv' := [(0, .ref 77), (1, .int x1), (2, .int x2), (3, .int x3)]) [0, 1, 2, 3] rfl ?_
  unfold f_X11_fromPlace at h
  refine gb_iload_n d_X11_fromPlace_0 rfl ?_
  refine gb_iload_n d_X11_fromPlace_1 rfl ?_
  obtain ⟨r1, e2, h⟩ := gb_bd_e h
  refine gb_cSi (As := [.int x2, .int x3]) (rest := []) m_X11_469 (t_X11_is (Γ := Γ) hS e2) (Nat.le_of_ble_eq_true rfl) rfl rfl (Nat.le_of_ble_eq_true rfl) d_X11_fromPlace_2 ?_
  refine gb_if_eq 36 d_X11_fromPlace_5 (by decide) (fun hc => ?_) (fun hc => ?_)
  · have h := gb_it hc h
    refine gb_ldcw 100000000 k_X11_461 d_X11_fromPlace_36 ?_
    cases h
    exact gb_iret d_X11_fromPlace_39 rfl ⟨rfl, rfl, rfl⟩
  · have h := gb_if hc h
    refine gb_iload_n d_X11_fromPlace_8 rfl ?_
    refine gb_aload_n d_X11_fromPlace_9 rfl ?_
    refine gb_iload_n d_X11_fromPlace_10 rfl ?_
    obtain ⟨r3, e4, h⟩ := gb_bd_e h
    refine gb_cVi (As := [.int x3]) (rest := [.int x1]) m_X11_473 (t_X11_placeOf (Γ := Γ) hS e4) (hS 77 _ rfl) rfl (Nat.le_of_ble_eq_true rfl) rfl rfl (Nat.le_of_ble_eq_true rfl) d_X11_fromPlace_11 ?_
    obtain ⟨r5, e6, h⟩ := gb_bd_e h
    refine gb_cSi (As := [.int x1, .int r3.2]) (rest := []) m_X11_476 (t_X11_stepsOf (Γ := Γ) hS e6) (Nat.le_of_ble_eq_true rfl) rfl rfl (Nat.le_of_ble_eq_true rfl) d_X11_fromPlace_14 ?_
    refine gb_aload_n d_X11_fromPlace_17 rfl ?_
    refine gb_getr (r := 99) f_X11_113 (hS 77 _ rfl) rfl d_X11_fromPlace_18 ?_
    refine gb_bipush 8 d_X11_fromPlace_21 rfl ?_
    refine gb_iload_n d_X11_fromPlace_23 rfl ?_
    refine gb_iconst 1 d_X11_fromPlace_24 rfl ?_
    refine gb_iload_n d_X11_fromPlace_25 rfl ?_
    refine gb_ishl d_X11_fromPlace_26 ?_
    refine gb_isub d_X11_fromPlace_27 ?_
    refine gb_imul d_X11_fromPlace_28 ?_
    refine gb_iload_n d_X11_fromPlace_29 rfl ?_
    refine gb_iadd d_X11_fromPlace_30 ?_
    obtain ⟨hi7, h⟩ := gb_ck_e h
    refine gb_iald_ (((8 * (x2 - (1 <<< (x3 &&& 31)))) + x3).toNatClampNeg) rfl (hS 99 _ rfl) hi7 d_X11_fromPlace_31 ?_
    refine gb_iadd d_X11_fromPlace_32 ?_
    refine gb_goto 39 d_X11_fromPlace_33 (by decide) ?_
    cases h
    exact gb_iret d_X11_fromPlace_39 rfl ⟨rfl, rfl, rfl⟩
-- X11_round
noncomputable def f_X11_round_184 (sh : List gb_Sh) (g : gb_G) (y2 : Int32) (y5 : Int32) (y6 : Int32) (y7 : Int32) : Option (gb_G × Int32) := if y2 = (-1) then (some (g, y6)) else (if y7 = (y2 + 1) then (some (g, y5)) else (some (g, (-1))))
noncomputable def f_X11_round_139 (sh : List gb_Sh) (K104 : gb_G → Int32 → Int32 → Int32 → Int32 → Int32 → Int32 → Int32 → Option (gb_G × Int32)) (g : gb_G) (y2 : Int32) (y3 : Int32) (y4 : Int32) (y6 : Int32) (y7 : Int32) (y8 : Int32) (z0 : Int32) : Option (gb_G × Int32) := K104 g y2 y3 y4 z0 y6 y7 (y8 + 1)
noncomputable def f_X11_round_104 (sh : List gb_Sh) (K83 : gb_G → Int32 → Int32 → Int32 → Int32 → Int32 → Int32 → Option (gb_G × Int32)) : Nat → gb_G → Int32 → Int32 → Int32 → Int32 → Int32 → Int32 → Int32 → Option (gb_G × Int32)
  | 0, _, _, _, _, _, _, _, _ => none
  | n + 1, g, y2, y3, y4, y5, y6, y7, y8 => if 8 ≤ y8 then (gb_bd (f_X11_placeOf sh g y5) (fun r6 => gb_bd (f_X11_stepsOf sh r6.1 y4 r6.2) (fun r8 => gb_bd (f_X11_placeOf sh r8.1 y5) (fun r10 => K83 r10.1 y2 (y3 - (1 <<< (y5 &&& 31))) r10.2 y5 (y6 + r8.2) (y7 + 1))))) else (gb_bd (f_X11_fromPlace sh g y4 y3 y8) (fun r12 => gb_bd (f_X11_fromPlace sh r12.1 y4 y3 y5) (fun r14 => if r14.2 ≤ r12.2 then (f_X11_round_139 sh (fun w w0 w1 w2 w3 w4 w5 w6 => f_X11_round_104 sh K83 n w w0 w1 w2 w3 w4 w5 w6) r14.1 y2 y3 y4 y6 y7 y8 y5) else (f_X11_round_139 sh (fun w w0 w1 w2 w3 w4 w5 w6 => f_X11_round_104 sh K83 n w w0 w1 w2 w3 w4 w5 w6) r14.1 y2 y3 y4 y6 y7 y8 y8))))
noncomputable def f_X11_round_98 (sh : List gb_Sh) (K83 : gb_G → Int32 → Int32 → Int32 → Int32 → Int32 → Int32 → Option (gb_G × Int32)) (g : gb_G) (y2 : Int32) (y3 : Int32) (y4 : Int32) (y6 : Int32) (y7 : Int32) : Option (gb_G × Int32) := f_X11_round_104 sh K83 gb_N g y2 y3 y4 0 y6 y7 1
noncomputable def f_X11_round_83 (sh : List gb_Sh) : Nat → gb_G → Int32 → Int32 → Int32 → Int32 → Int32 → Int32 → Option (gb_G × Int32)
  | 0, _, _, _, _, _, _, _ => none
  | n + 1, g, y2, y3, y4, y5, y6, y7 => if y3 = 0 then (f_X11_round_184 sh g y2 y5 y6 y7) else (if y2 = (-1) then (f_X11_round_98 sh (fun w w0 w1 w2 w3 w4 w5 => f_X11_round_83 sh n w w0 w1 w2 w3 w4 w5) g y2 y3 y4 y6 y7) else (if y2 < y7 then (f_X11_round_184 sh g y2 y5 y6 y7) else (f_X11_round_98 sh (fun w w0 w1 w2 w3 w4 w5 => f_X11_round_83 sh n w w0 w1 w2 w3 w4 w5) g y2 y3 y4 y6 y7)))
noncomputable def f_X11_round_58 (sh : List gb_Sh) (K29 : gb_G → Int32 → Int32 → Int32 → Int32 → Option (gb_G × Int32)) (g : gb_G) (y1 : Int32) (y2 : Int32) (y4 : Int32) (z0 : Int32) (z1 : Int32) : Option (gb_G × Int32) := K29 g y1 y2 (z1 ||| z0) (y4 + 1)
noncomputable def f_X11_round_29 (sh : List gb_Sh) : Nat → gb_G → Int32 → Int32 → Int32 → Int32 → Option (gb_G × Int32)
  | 0, _, _, _, _, _ => none
  | n + 1, g, y1, y2, y3, y4 => if (g.1 79 0) ≤ y4 then (gb_bd (f_X11_layRounds sh g y3) (fun r4 => f_X11_round_83 sh gb_N r4 y2 y3 y1 (-1) 0 0)) else (gb_bd (f_X11_countsOf sh g y4) (fun r16 => if r16.2 ≤ 0 then (f_X11_round_58 sh (fun w w0 w1 w2 w3 => f_X11_round_29 sh n w w0 w1 w2 w3) r16.1 y1 y2 y4 0 y3) else (f_X11_round_58 sh (fun w w0 w1 w2 w3 => f_X11_round_29 sh n w w0 w1 w2 w3) r16.1 y1 y2 y4 (1 <<< (y4 &&& 31)) y3)))
noncomputable def f_X11_round (sh : List gb_Sh) (g : gb_G) (x1 : Int32) (x2 : Int32) : Option (gb_G × Int32) := gb_let (gb_pi g 77 0 0) (fun g1 => gb_bd (f_X11_in sh g1 x1.toInt64 0 24) (fun r2 => if r2.2 = 0 then (some (r2.1, (-1))) else (if (-1) ≤ x2 then (f_X11_round_29 sh gb_N r2.1 x1 x2 0 0) else (some (r2.1, (-1))))))
set_option maxRecDepth 100000 in
set_option maxHeartbeats 4000000 in
theorem t_X11_round_184 {Γ : gb_X} {sh : List gb_Sh} {out : gb_G × Int32} (hS : gb_S sh) : ∀ (g : gb_G) (y2 : Int32) (y5 : Int32) (y6 : Int32) (y7 : Int32), f_X11_round_184 sh g y2 y5 y6 y7 = some out → gb_J Γ M_X11_round 6 (gb_Ri sh out) 0 0 sh g 184 [(2, .int y2), (5, .int y5), (6, .int y6), (7, .int y7)] [] := by
  intro g y2 y5 y6 y7 h
  unfold f_X11_round_184 at h
  refine gb_iload_n d_X11_round_184 rfl ?_
  refine gb_iconst (-1) d_X11_round_185 rfl ?_
  refine gb_icmp_ne 194 d_X11_round_186 (by decide) (fun hc => ?_) (fun hc => ?_)
  · have h := gb_if hc h
    refine gb_iload d_X11_round_194 rfl ?_
    refine gb_iload_n d_X11_round_196 rfl ?_
    refine gb_iconst 1 d_X11_round_197 rfl ?_
    refine gb_iadd d_X11_round_198 ?_
    refine gb_icmp_ne 207 d_X11_round_199 (by decide) (fun hc => ?_) (fun hc => ?_)
    · have h := gb_if hc h
      refine gb_iconst (-1) d_X11_round_207 rfl ?_
      cases h
      exact gb_iret d_X11_round_208 rfl ⟨rfl, rfl, rfl⟩
    · have h := gb_it hc h
      refine gb_iload d_X11_round_202 rfl ?_
      refine gb_goto 208 d_X11_round_204 (by decide) ?_
      cases h
      exact gb_iret d_X11_round_208 rfl ⟨rfl, rfl, rfl⟩
  · have h := gb_it hc h
    refine gb_iload d_X11_round_189 rfl ?_
    refine gb_goto 208 d_X11_round_191 (by decide) ?_
    cases h
    exact gb_iret d_X11_round_208 rfl ⟨rfl, rfl, rfl⟩
set_option maxRecDepth 100000 in
set_option maxHeartbeats 4000000 in
theorem t_X11_round_139 {Γ : gb_X} {sh : List gb_Sh} {out : gb_G × Int32} (hS : gb_S sh) {K104 : gb_G → Int32 → Int32 → Int32 → Int32 → Int32 → Int32 → Int32 → Option (gb_G × Int32)} (hK104 : ∀ (g : gb_G) (y2 : Int32) (y3 : Int32) (y4 : Int32) (y5 : Int32) (y6 : Int32) (y7 : Int32) (y8 : Int32), K104 g y2 y3 y4 y5 y6 y7 y8 = some out → gb_J Γ M_X11_round 6 (gb_Ri sh out) 0 0 sh g 104 [(0, .ref 77), (2, .int y2), (3, .int y3), (4, .int y4), (5, .int y5), (6, .int y6), (7, .int y7), (8, .int y8)] []) : ∀ (g : gb_G) (y2 : Int32) (y3 : Int32) (y4 : Int32) (y6 : Int32) (y7 : Int32) (y8 : Int32) (z0 : Int32), f_X11_round_139 sh K104 g y2 y3 y4 y6 y7 y8 z0 = some out → gb_J Γ M_X11_round 6 (gb_Ri sh out) 0 0 sh g 139 [(0, .ref 77), (2, .int y2), (3, .int y3), (4, .int y4), (6, .int y6), (7, .int y7), (8, .int y8)] [.int z0] := by
  intro g y2 y3 y4 y6 y7 y8 z0 h
  unfold f_X11_round_139 at h
  refine gb_istore [(5, .int z0), (0, .ref 77), (2, .int y2), (3, .int y3), (4, .int y4), (6, .int y6), (7, .int y7), (8, .int y8)] d_X11_round_139 (Nat.le_of_ble_eq_true rfl) rfl ?_
  refine gb_iinc (y8 + 1) [(8, .int (y8 + 1)), (5, .int z0), (0, .ref 77), (2, .int y2), (3, .int y3), (4, .int y4), (6, .int y6), (7, .int y7)] d_X11_round_141 (Nat.le_of_ble_eq_true rfl) rfl rfl rfl ?_
  refine gb_goto 104 d_X11_round_144 (by decide) ?_
  refine gb_pick (lv' := [(0, .ref 77), (2, .int y2), (3, .int y3), (4, .int y4), (5, .int z0), (6, .int y6), (7, .int y7), (8, .int (y8 + 1))]) [2, 3, 4, 5, 1, 6, 7, 0] rfl ?_
  exact hK104 _ y2 y3 y4 z0 y6 y7 (y8 + 1) h
set_option maxRecDepth 100000 in
set_option maxHeartbeats 4000000 in
theorem t_X11_round_104 {Γ : gb_X} {sh : List gb_Sh} {out : gb_G × Int32} (hS : gb_S sh) {K83 : gb_G → Int32 → Int32 → Int32 → Int32 → Int32 → Int32 → Option (gb_G × Int32)} (hK83 : ∀ (g : gb_G) (y2 : Int32) (y3 : Int32) (y4 : Int32) (y5 : Int32) (y6 : Int32) (y7 : Int32), K83 g y2 y3 y4 y5 y6 y7 = some out → gb_J Γ M_X11_round 6 (gb_Ri sh out) 0 0 sh g 83 [(0, .ref 77), (2, .int y2), (3, .int y3), (4, .int y4), (5, .int y5), (6, .int y6), (7, .int y7)] []) : ∀ (n : Nat) (g : gb_G) (y2 : Int32) (y3 : Int32) (y4 : Int32) (y5 : Int32) (y6 : Int32) (y7 : Int32) (y8 : Int32), f_X11_round_104 sh K83 n g y2 y3 y4 y5 y6 y7 y8 = some out → gb_J Γ M_X11_round 6 (gb_Ri sh out) 0 0 sh g 104 [(0, .ref 77), (2, .int y2), (3, .int y3), (4, .int y4), (5, .int y5), (6, .int y6), (7, .int y7), (8, .int y8)] [] := by
  intro n
  induction n with
  | zero => intro g y2 y3 y4 y5 y6 y7 y8 h; cases h
  | succ n ih =>
    intro g y2 y3 y4 y5 y6 y7 y8 h
    rw [f_X11_round_104] at h
    refine gb_iload d_X11_round_104 rfl ?_
    refine gb_bipush 8 d_X11_round_106 rfl ?_
    refine gb_icmp_ge 147 d_X11_round_108 (by decide) (fun hc => ?_) (fun hc => ?_)
    · have h := gb_it hc h
      refine gb_iload d_X11_round_147 rfl ?_
      refine gb_iload d_X11_round_149 rfl ?_
      refine gb_aload_n d_X11_round_151 rfl ?_
      refine gb_iload d_X11_round_152 rfl ?_
      obtain ⟨r6, e7, h⟩ := gb_bd_e h
      refine gb_cVi (As := [.int y5]) (rest := [.int y4, .int y6]) m_X11_473 (t_X11_placeOf (Γ := Γ) hS e7) (hS 77 _ rfl) rfl (Nat.le_of_ble_eq_true rfl) rfl rfl (Nat.le_of_ble_eq_true rfl) d_X11_round_154 ?_
      obtain ⟨r8, e9, h⟩ := gb_bd_e h
      refine gb_cSi (As := [.int y4, .int r6.2]) (rest := [.int y6]) m_X11_476 (t_X11_stepsOf (Γ := Γ) hS e9) (Nat.le_of_ble_eq_true rfl) rfl rfl (Nat.le_of_ble_eq_true rfl) d_X11_round_157 ?_
      refine gb_iadd d_X11_round_160 ?_
      refine gb_istore [(6, .int (y6 + r8.2)), (0, .ref 77), (2, .int y2), (3, .int y3), (4, .int y4), (5, .int y5), (7, .int y7), (8, .int y8)] d_X11_round_161 (Nat.le_of_ble_eq_true rfl) rfl ?_
      refine gb_aload_n d_X11_round_163 rfl ?_
      refine gb_iload d_X11_round_164 rfl ?_
      obtain ⟨r10, e11, h⟩ := gb_bd_e h
      refine gb_cVi (As := [.int y5]) (rest := []) m_X11_473 (t_X11_placeOf (Γ := Γ) hS e11) (hS 77 _ rfl) rfl (Nat.le_of_ble_eq_true rfl) rfl rfl (Nat.le_of_ble_eq_true rfl) d_X11_round_166 ?_
      refine gb_istore [(4, .int r10.2), (6, .int (y6 + r8.2)), (0, .ref 77), (2, .int y2), (3, .int y3), (5, .int y5), (7, .int y7), (8, .int y8)] d_X11_round_169 (Nat.le_of_ble_eq_true rfl) rfl ?_
      refine gb_iload_n d_X11_round_171 rfl ?_
      refine gb_iconst 1 d_X11_round_172 rfl ?_
      refine gb_iload d_X11_round_173 rfl ?_
      refine gb_ishl d_X11_round_175 ?_
      refine gb_isub d_X11_round_176 ?_
      refine gb_istore_n [(3, .int (y3 - (1 <<< (y5 &&& 31)))), (4, .int r10.2), (6, .int (y6 + r8.2)), (0, .ref 77), (2, .int y2), (5, .int y5), (7, .int y7), (8, .int y8)] d_X11_round_177 (Nat.le_of_ble_eq_true rfl) rfl ?_
      refine gb_iinc (y7 + 1) [(7, .int (y7 + 1)), (3, .int (y3 - (1 <<< (y5 &&& 31)))), (4, .int r10.2), (6, .int (y6 + r8.2)), (0, .ref 77), (2, .int y2), (5, .int y5), (8, .int y8)] d_X11_round_178 (Nat.le_of_ble_eq_true rfl) rfl rfl rfl ?_
      refine gb_goto 83 d_X11_round_181 (by decide) ?_
      refine gb_pick (lv' := [(0, .ref 77), (2, .int y2), (3, .int (y3 - (1 <<< (y5 &&& 31)))), (4, .int r10.2), (5, .int y5), (6, .int (y6 + r8.2)), (7, .int (y7 + 1))]) [4, 5, 1, 2, 6, 3, 0] rfl ?_
      exact hK83 _ y2 (y3 - (1 <<< (y5 &&& 31))) r10.2 y5 (y6 + r8.2) (y7 + 1) h
    · have h := gb_if hc h
      refine gb_aload_n d_X11_round_111 rfl ?_
      refine gb_iload d_X11_round_112 rfl ?_
      refine gb_iload_n d_X11_round_114 rfl ?_
      refine gb_iload d_X11_round_115 rfl ?_
      obtain ⟨r12, e13, h⟩ := gb_bd_e h
      refine gb_cVi (As := [.int y4, .int y3, .int y8]) (rest := []) m_X11_482 (t_X11_fromPlace (Γ := Γ) hS e13) (hS 77 _ rfl) rfl (Nat.le_of_ble_eq_true rfl) rfl rfl (Nat.le_of_ble_eq_true rfl) d_X11_round_117 ?_
      refine gb_aload_n d_X11_round_120 rfl ?_
      refine gb_iload d_X11_round_121 rfl ?_
      refine gb_iload_n d_X11_round_123 rfl ?_
      refine gb_iload d_X11_round_124 rfl ?_
      obtain ⟨r14, e15, h⟩ := gb_bd_e h
      refine gb_cVi (As := [.int y4, .int y3, .int y5]) (rest := [.int r12.2]) m_X11_482 (t_X11_fromPlace (Γ := Γ) hS e15) (hS 77 _ rfl) rfl (Nat.le_of_ble_eq_true rfl) rfl rfl (Nat.le_of_ble_eq_true rfl) d_X11_round_126 ?_
      refine gb_icmp_ge 137 d_X11_round_129 (by decide) (fun hc => ?_) (fun hc => ?_)
      · have h := gb_it hc h
        refine gb_iload d_X11_round_137 rfl ?_
        refine gb_pick (lv' := [(0, .ref 77), (2, .int y2), (3, .int y3), (4, .int y4), (6, .int y6), (7, .int y7), (8, .int y8)]) [0, 1, 2, 3, 5, 6, 7] rfl ?_
        exact t_X11_round_139 hS (fun w w0 w1 w2 w3 w4 w5 w6 hw => ih w w0 w1 w2 w3 w4 w5 w6 hw) _ y2 y3 y4 y6 y7 y8 y5 h
      · have h := gb_if hc h
        refine gb_iload d_X11_round_132 rfl ?_
        refine gb_goto 139 d_X11_round_134 (by decide) ?_
        refine gb_pick (lv' := [(0, .ref 77), (2, .int y2), (3, .int y3), (4, .int y4), (6, .int y6), (7, .int y7), (8, .int y8)]) [0, 1, 2, 3, 5, 6, 7] rfl ?_
        exact t_X11_round_139 hS (fun w w0 w1 w2 w3 w4 w5 w6 hw => ih w w0 w1 w2 w3 w4 w5 w6 hw) _ y2 y3 y4 y6 y7 y8 y8 h
set_option maxRecDepth 100000 in
set_option maxHeartbeats 4000000 in
theorem t_X11_round_98 {Γ : gb_X} {sh : List gb_Sh} {out : gb_G × Int32} (hS : gb_S sh) {K83 : gb_G → Int32 → Int32 → Int32 → Int32 → Int32 → Int32 → Option (gb_G × Int32)} (hK83 : ∀ (g : gb_G) (y2 : Int32) (y3 : Int32) (y4 : Int32) (y5 : Int32) (y6 : Int32) (y7 : Int32), K83 g y2 y3 y4 y5 y6 y7 = some out → gb_J Γ M_X11_round 6 (gb_Ri sh out) 0 0 sh g 83 [(0, .ref 77), (2, .int y2), (3, .int y3), (4, .int y4), (5, .int y5), (6, .int y6), (7, .int y7)] []) : ∀ (g : gb_G) (y2 : Int32) (y3 : Int32) (y4 : Int32) (y6 : Int32) (y7 : Int32), f_X11_round_98 sh K83 g y2 y3 y4 y6 y7 = some out → gb_J Γ M_X11_round 6 (gb_Ri sh out) 0 0 sh g 98 [(0, .ref 77), (2, .int y2), (3, .int y3), (4, .int y4), (6, .int y6), (7, .int y7)] [] := by
  intro g y2 y3 y4 y6 y7 h
  unfold f_X11_round_98 at h
  refine gb_iconst 0 d_X11_round_98 rfl ?_
  refine gb_istore [(5, .int 0), (0, .ref 77), (2, .int y2), (3, .int y3), (4, .int y4), (6, .int y6), (7, .int y7)] d_X11_round_99 (Nat.le_of_ble_eq_true rfl) rfl ?_
  refine gb_iconst 1 d_X11_round_101 rfl ?_
  refine gb_istore [(8, .int 1), (5, .int 0), (0, .ref 77), (2, .int y2), (3, .int y3), (4, .int y4), (6, .int y6), (7, .int y7)] d_X11_round_102 (Nat.le_of_ble_eq_true rfl) rfl ?_
  refine gb_pick (lv' := [(0, .ref 77), (2, .int y2), (3, .int y3), (4, .int y4), (5, .int 0), (6, .int y6), (7, .int y7), (8, .int 1)]) [2, 3, 4, 5, 1, 6, 7, 0] rfl ?_
  exact t_X11_round_104 hS hK83 gb_N _ y2 y3 y4 0 y6 y7 1 h
set_option maxRecDepth 100000 in
set_option maxHeartbeats 4000000 in
theorem t_X11_round_83 {Γ : gb_X} {sh : List gb_Sh} {out : gb_G × Int32} (hS : gb_S sh) : ∀ (n : Nat) (g : gb_G) (y2 : Int32) (y3 : Int32) (y4 : Int32) (y5 : Int32) (y6 : Int32) (y7 : Int32), f_X11_round_83 sh n g y2 y3 y4 y5 y6 y7 = some out → gb_J Γ M_X11_round 6 (gb_Ri sh out) 0 0 sh g 83 [(0, .ref 77), (2, .int y2), (3, .int y3), (4, .int y4), (5, .int y5), (6, .int y6), (7, .int y7)] [] := by
  intro n
  induction n with
  | zero => intro g y2 y3 y4 y5 y6 y7 h; cases h
  | succ n ih =>
    intro g y2 y3 y4 y5 y6 y7 h
    rw [f_X11_round_83] at h
    refine gb_iload_n d_X11_round_83 rfl ?_
    refine gb_if_eq 184 d_X11_round_84 (by decide) (fun hc => ?_) (fun hc => ?_)
    · have h := gb_it hc h
      refine gb_pick (lv' := [(2, .int y2), (5, .int y5), (6, .int y6), (7, .int y7)]) [1, 4, 5, 6] rfl ?_
      exact t_X11_round_184 hS  _ y2 y5 y6 y7 h
    · have h := gb_if hc h
      refine gb_iload_n d_X11_round_87 rfl ?_
      refine gb_iconst (-1) d_X11_round_88 rfl ?_
      refine gb_icmp_eq 98 d_X11_round_89 (by decide) (fun hc => ?_) (fun hc => ?_)
      · have h := gb_it hc h
        refine gb_pick (lv' := [(0, .ref 77), (2, .int y2), (3, .int y3), (4, .int y4), (6, .int y6), (7, .int y7)]) [0, 1, 2, 3, 5, 6] rfl ?_
        exact t_X11_round_98 hS (fun w w0 w1 w2 w3 w4 w5 hw => ih w w0 w1 w2 w3 w4 w5 hw) _ y2 y3 y4 y6 y7 h
      · have h := gb_if hc h
        refine gb_iload d_X11_round_92 rfl ?_
        refine gb_iload_n d_X11_round_94 rfl ?_
        refine gb_icmp_gt 184 d_X11_round_95 (by decide) (fun hc => ?_) (fun hc => ?_)
        · have h := gb_it hc h
          refine gb_pick (lv' := [(2, .int y2), (5, .int y5), (6, .int y6), (7, .int y7)]) [1, 4, 5, 6] rfl ?_
          exact t_X11_round_184 hS  _ y2 y5 y6 y7 h
        · have h := gb_if hc h
          refine gb_pick (lv' := [(0, .ref 77), (2, .int y2), (3, .int y3), (4, .int y4), (6, .int y6), (7, .int y7)]) [0, 1, 2, 3, 5, 6] rfl ?_
          exact t_X11_round_98 hS (fun w w0 w1 w2 w3 w4 w5 hw => ih w w0 w1 w2 w3 w4 w5 hw) _ y2 y3 y4 y6 y7 h
set_option maxRecDepth 100000 in
set_option maxHeartbeats 4000000 in
theorem t_X11_round_58 {Γ : gb_X} {sh : List gb_Sh} {out : gb_G × Int32} (hS : gb_S sh) {K29 : gb_G → Int32 → Int32 → Int32 → Int32 → Option (gb_G × Int32)} (hK29 : ∀ (g : gb_G) (y1 : Int32) (y2 : Int32) (y3 : Int32) (y4 : Int32), K29 g y1 y2 y3 y4 = some out → gb_J Γ M_X11_round 6 (gb_Ri sh out) 0 0 sh g 29 [(0, .ref 77), (1, .int y1), (2, .int y2), (3, .int y3), (4, .int y4)] []) : ∀ (g : gb_G) (y1 : Int32) (y2 : Int32) (y4 : Int32) (z0 : Int32) (z1 : Int32), f_X11_round_58 sh K29 g y1 y2 y4 z0 z1 = some out → gb_J Γ M_X11_round 6 (gb_Ri sh out) 0 0 sh g 58 [(0, .ref 77), (1, .int y1), (2, .int y2), (4, .int y4)] [.int z0, .int z1] := by
  intro g y1 y2 y4 z0 z1 h
  unfold f_X11_round_58 at h
  refine gb_ior d_X11_round_58 ?_
  refine gb_istore_n [(3, .int (z1 ||| z0)), (0, .ref 77), (1, .int y1), (2, .int y2), (4, .int y4)] d_X11_round_59 (Nat.le_of_ble_eq_true rfl) rfl ?_
  refine gb_iinc (y4 + 1) [(4, .int (y4 + 1)), (3, .int (z1 ||| z0)), (0, .ref 77), (1, .int y1), (2, .int y2)] d_X11_round_60 (Nat.le_of_ble_eq_true rfl) rfl rfl rfl ?_
  refine gb_goto 29 d_X11_round_63 (by decide) ?_
  refine gb_pick (lv' := [(0, .ref 77), (1, .int y1), (2, .int y2), (3, .int (z1 ||| z0)), (4, .int (y4 + 1))]) [2, 3, 4, 1, 0] rfl ?_
  exact hK29 _ y1 y2 (z1 ||| z0) (y4 + 1) h
set_option maxRecDepth 100000 in
set_option maxHeartbeats 4000000 in
theorem t_X11_round_29 {Γ : gb_X} {sh : List gb_Sh} {out : gb_G × Int32} (hS : gb_S sh) : ∀ (n : Nat) (g : gb_G) (y1 : Int32) (y2 : Int32) (y3 : Int32) (y4 : Int32), f_X11_round_29 sh n g y1 y2 y3 y4 = some out → gb_J Γ M_X11_round 6 (gb_Ri sh out) 0 0 sh g 29 [(0, .ref 77), (1, .int y1), (2, .int y2), (3, .int y3), (4, .int y4)] [] := by
  intro n
  induction n with
  | zero => intro g y1 y2 y3 y4 h; cases h
  | succ n ih =>
    intro g y1 y2 y3 y4 h
    rw [f_X11_round_29] at h
    refine gb_iload d_X11_round_29 rfl ?_
    refine gb_aload_n d_X11_round_31 rfl ?_
    refine gb_getr (r := 79) f_X11_13 (hS 77 _ rfl) rfl d_X11_round_32 ?_
    refine gb_iconst 0 d_X11_round_35 rfl ?_
    refine gb_iald_ 0 rfl (hS 79 _ rfl) (by unfold vp_in; decide) d_X11_round_36 ?_
    refine gb_icmp_ge 66 d_X11_round_37 (by decide) (fun hc => ?_) (fun hc => ?_)
    · have h := gb_it hc h
      refine gb_aload_n d_X11_round_66 rfl ?_
      refine gb_iload_n d_X11_round_67 rfl ?_
      obtain ⟨r4, e5, h⟩ := gb_bd_e h
      refine gb_cVv (As := [.int y3]) (rest := []) m_X11_479 (t_X11_layRounds (Γ := Γ) hS e5) (hS 77 _ rfl) rfl (Nat.le_of_ble_eq_true rfl) rfl rfl (Nat.le_of_ble_eq_true rfl) d_X11_round_68 ?_
      refine gb_iload_n d_X11_round_71 rfl ?_
      refine gb_istore [(4, .int y1), (0, .ref 77), (1, .int y1), (2, .int y2), (3, .int y3)] d_X11_round_72 (Nat.le_of_ble_eq_true rfl) rfl ?_
      refine gb_iconst (-1) d_X11_round_74 rfl ?_
      refine gb_istore [(5, .int (-1)), (4, .int y1), (0, .ref 77), (1, .int y1), (2, .int y2), (3, .int y3)] d_X11_round_75 (Nat.le_of_ble_eq_true rfl) rfl ?_
      refine gb_iconst 0 d_X11_round_77 rfl ?_
      refine gb_istore [(6, .int 0), (5, .int (-1)), (4, .int y1), (0, .ref 77), (1, .int y1), (2, .int y2), (3, .int y3)] d_X11_round_78 (Nat.le_of_ble_eq_true rfl) rfl ?_
      refine gb_iconst 0 d_X11_round_80 rfl ?_
      refine gb_istore [(7, .int 0), (6, .int 0), (5, .int (-1)), (4, .int y1), (0, .ref 77), (1, .int y1), (2, .int y2), (3, .int y3)] d_X11_round_81 (Nat.le_of_ble_eq_true rfl) rfl ?_
      refine gb_pick (lv' := [(0, .ref 77), (2, .int y2), (3, .int y3), (4, .int y1), (5, .int (-1)), (6, .int 0), (7, .int 0)]) [4, 6, 7, 3, 2, 1, 0] rfl ?_
      exact t_X11_round_83 hS  gb_N _ y2 y3 y1 (-1) 0 0 h
    · have h := gb_if hc h
      refine gb_iload_n d_X11_round_40 rfl ?_
      refine gb_aload_n d_X11_round_41 rfl ?_
      refine gb_iload d_X11_round_42 rfl ?_
      obtain ⟨r16, e17, h⟩ := gb_bd_e h
      refine gb_cVi (As := [.int y4]) (rest := [.int y3]) m_X11_192 (t_X11_countsOf (Γ := Γ) hS e17) (hS 77 _ rfl) rfl (Nat.le_of_ble_eq_true rfl) rfl rfl (Nat.le_of_ble_eq_true rfl) d_X11_round_44 ?_
      refine gb_if_le 57 d_X11_round_47 (by decide) (fun hc => ?_) (fun hc => ?_)
      · have h := gb_it hc h
        refine gb_iconst 0 d_X11_round_57 rfl ?_
        refine gb_pick (lv' := [(0, .ref 77), (1, .int y1), (2, .int y2), (4, .int y4)]) [0, 1, 2, 4] rfl ?_
        exact t_X11_round_58 hS (fun w w0 w1 w2 w3 hw => ih w w0 w1 w2 w3 hw) _ y1 y2 y4 0 y3 h
      · have h := gb_if hc h
        refine gb_iconst 1 d_X11_round_50 rfl ?_
        refine gb_iload d_X11_round_51 rfl ?_
        refine gb_ishl d_X11_round_53 ?_
        refine gb_goto 58 d_X11_round_54 (by decide) ?_
        refine gb_pick (lv' := [(0, .ref 77), (1, .int y1), (2, .int y2), (4, .int y4)]) [0, 1, 2, 4] rfl ?_
        exact t_X11_round_58 hS (fun w w0 w1 w2 w3 hw => ih w w0 w1 w2 w3 hw) _ y1 y2 y4 (1 <<< (y4 &&& 31)) y3 h
set_option maxRecDepth 100000 in
set_option maxHeartbeats 4000000 in
theorem t_X11_round {Γ : gb_X} {sh : List gb_Sh} {x1 : Int32} {x2 : Int32} {out : gb_G × Int32} (hS : gb_S sh) {g : gb_G} (h : f_X11_round sh g x1 x2 = some out) : gb_C Γ M_X11_round 6 0 0 sh g [.ref 77, .int x1, .int x2] (gb_Ri sh out) := by
  refine gb_C.of rfl (Nat.le_of_ble_eq_true rfl) ?_
  refine gb_pick (lv' := [(0, .ref 77), (1, .int x1), (2, .int x2)]) [0, 1, 2] rfl ?_
  unfold f_X11_round at h
  refine gb_aload_n d_X11_round_0 rfl ?_
  refine gb_iconst 0 d_X11_round_1 rfl ?_
  refine gb_puti f_X11_145 (fun h => nomatch h) (hS 77 _ rfl) rfl rfl rfl d_X11_round_2 ?_
  have h := gb_let_e h
  generalize gb_pi g 77 0 0 = g1 at h ⊢
  refine gb_iload_n d_X11_round_5 rfl ?_
  refine gb_i2l d_X11_round_6 ?_
  refine gb_lconst 0 d_X11_round_7 rfl ?_
  refine gb_ldc2 24 k_X11_178 d_X11_round_8 ?_
  obtain ⟨r2, e3, h⟩ := gb_bd_e h
  refine gb_cSi (As := [.long x1.toInt64, .long 0, .long 24]) (rest := []) m_X11_165 (t_X11_in (Γ := Γ) hS e3) (Nat.le_of_ble_eq_true rfl) rfl rfl (Nat.le_of_ble_eq_true rfl) d_X11_round_11 ?_
  refine gb_if_eq 22 d_X11_round_14 (by decide) (fun hc => ?_) (fun hc => ?_)
  · have h := gb_it hc h
    refine gb_iconst (-1) d_X11_round_22 rfl ?_
    cases h
    exact gb_iret d_X11_round_23 rfl ⟨rfl, rfl, rfl⟩
  · have h := gb_if hc h
    refine gb_iload_n d_X11_round_17 rfl ?_
    refine gb_iconst (-1) d_X11_round_18 rfl ?_
    refine gb_icmp_ge 24 d_X11_round_19 (by decide) (fun hc => ?_) (fun hc => ?_)
    · have h := gb_it hc h
      refine gb_iconst 0 d_X11_round_24 rfl ?_
      refine gb_istore_n [(3, .int 0), (0, .ref 77), (1, .int x1), (2, .int x2)] d_X11_round_25 (Nat.le_of_ble_eq_true rfl) rfl ?_
      refine gb_iconst 0 d_X11_round_26 rfl ?_
      refine gb_istore [(4, .int 0), (3, .int 0), (0, .ref 77), (1, .int x1), (2, .int x2)] d_X11_round_27 (Nat.le_of_ble_eq_true rfl) rfl ?_
      refine gb_pick (lv' := [(0, .ref 77), (1, .int x1), (2, .int x2), (3, .int 0), (4, .int 0)]) [2, 3, 4, 1, 0] rfl ?_
      exact t_X11_round_29 hS  gb_N _ x1 x2 0 0 h
    · have h := gb_if hc h
      refine gb_iconst (-1) d_X11_round_22 rfl ?_
      cases h
      exact gb_iret d_X11_round_23 rfl ⟨rfl, rfl, rfl⟩
-- X11_isBought
noncomputable def f_X11_isBought_83 (sh : List gb_Sh) (K12 : gb_G → Int32 → Int32 → Int32 → Int32 → Int32 → Int32 → Int32 → Option (gb_G × Int32)) (g : gb_G) (y1 : Int32) (y2 : Int32) (y3 : Int32) (y4 : Int32) (y5 : Int32) (y6 : Int32) (y7 : Int32) : Option (gb_G × Int32) := K12 g y1 y2 y3 y4 y5 y6 (y7 + 1)
noncomputable def f_X11_isBought_81 (sh : List gb_Sh) (K83 : gb_G → Int32 → Int32 → Int32 → Int32 → Int32 → Int32 → Int32 → Option (gb_G × Int32)) (g : gb_G) (y1 : Int32) (y2 : Int32) (y3 : Int32) (y4 : Int32) (y5 : Int32) (y7 : Int32) (z0 : Int32) : Option (gb_G × Int32) := K83 g y1 y2 y3 y4 y5 z0 y7
noncomputable def f_X11_isBought_12 (sh : List gb_Sh) : Nat → gb_G → Int32 → Int32 → Int32 → Int32 → Int32 → Int32 → Int32 → Option (gb_G × Int32)
  | 0, _, _, _, _, _, _, _, _ => none
  | n + 1, g, y1, y2, y3, y4, y5, y6, y7 => if (g.1 79 0) ≤ y7 then (if y6 = 0 then (some (g, 0)) else (if y4 = y2 then (if y5 = y3 then (some (g, 1)) else (some (g, 0))) else (some (g, 0)))) else (gb_bd (f_X11_is sh g y1 y7) (fun r1 => if r1.2 = 0 then (f_X11_isBought_83 sh (fun w w0 w1 w2 w3 w4 w5 w6 => f_X11_isBought_12 sh n w w0 w1 w2 w3 w4 w5 w6) r1.1 y1 y2 y3 y4 y5 y6 y7) else (gb_ck (8 + y7) 5520 (gb_bd (f_X11_gladsOf sh r1.1 y7) (fun r4 => if y6 = 0 then (f_X11_isBought_81 sh (fun w w0 w1 w2 w3 w4 w5 w6 => f_X11_isBought_83 sh (fun w w0 w1 w2 w3 w4 w5 w6 => f_X11_isBought_12 sh n w w0 w1 w2 w3 w4 w5 w6) w w0 w1 w2 w3 w4 w5 w6) r4.1 y1 y2 y3 (y4 + (r1.1.1 79 ((8 + y7).toNatClampNeg))) (y5 + r4.2) y7 0) else (gb_ck (16 + y7) 5520 (if (r4.1.1 79 ((16 + y7).toNatClampNeg)) = 0 then (f_X11_isBought_81 sh (fun w w0 w1 w2 w3 w4 w5 w6 => f_X11_isBought_83 sh (fun w w0 w1 w2 w3 w4 w5 w6 => f_X11_isBought_12 sh n w w0 w1 w2 w3 w4 w5 w6) w w0 w1 w2 w3 w4 w5 w6) r4.1 y1 y2 y3 (y4 + (r1.1.1 79 ((8 + y7).toNatClampNeg))) (y5 + r4.2) y7 1) else (f_X11_isBought_81 sh (fun w w0 w1 w2 w3 w4 w5 w6 => f_X11_isBought_83 sh (fun w w0 w1 w2 w3 w4 w5 w6 => f_X11_isBought_12 sh n w w0 w1 w2 w3 w4 w5 w6) w w0 w1 w2 w3 w4 w5 w6) r4.1 y1 y2 y3 (y4 + (r1.1.1 79 ((8 + y7).toNatClampNeg))) (y5 + r4.2) y7 0))))))))
noncomputable def f_X11_isBought (sh : List gb_Sh) (g : gb_G) (x1 : Int32) (x2 : Int32) (x3 : Int32) : Option (gb_G × Int32) := f_X11_isBought_12 sh gb_N g x1 x2 x3 0 0 1 0
set_option maxRecDepth 100000 in
set_option maxHeartbeats 4000000 in
theorem t_X11_isBought_83 {Γ : gb_X} {sh : List gb_Sh} {out : gb_G × Int32} (hS : gb_S sh) {K12 : gb_G → Int32 → Int32 → Int32 → Int32 → Int32 → Int32 → Int32 → Option (gb_G × Int32)} (hK12 : ∀ (g : gb_G) (y1 : Int32) (y2 : Int32) (y3 : Int32) (y4 : Int32) (y5 : Int32) (y6 : Int32) (y7 : Int32), K12 g y1 y2 y3 y4 y5 y6 y7 = some out → gb_J Γ M_X11_isBought 6 (gb_Ri sh out) 0 0 sh g 12 [(0, .ref 77), (1, .int y1), (2, .int y2), (3, .int y3), (4, .int y4), (5, .int y5), (6, .int y6), (7, .int y7)] []) : ∀ (g : gb_G) (y1 : Int32) (y2 : Int32) (y3 : Int32) (y4 : Int32) (y5 : Int32) (y6 : Int32) (y7 : Int32), f_X11_isBought_83 sh K12 g y1 y2 y3 y4 y5 y6 y7 = some out → gb_J Γ M_X11_isBought 6 (gb_Ri sh out) 0 0 sh g 83 [(0, .ref 77), (1, .int y1), (2, .int y2), (3, .int y3), (4, .int y4), (5, .int y5), (6, .int y6), (7, .int y7)] [] := by
  intro g y1 y2 y3 y4 y5 y6 y7 h
  unfold f_X11_isBought_83 at h
  refine gb_iinc (y7 + 1) [(7, .int (y7 + 1)), (0, .ref 77), (1, .int y1), (2, .int y2), (3, .int y3), (4, .int y4), (5, .int y5), (6, .int y6)] d_X11_isBought_83 (Nat.le_of_ble_eq_true rfl) rfl rfl rfl ?_
  refine gb_goto 12 d_X11_isBought_86 (by decide) ?_
  refine gb_pick (lv' := [(0, .ref 77), (1, .int y1), (2, .int y2), (3, .int y3), (4, .int y4), (5, .int y5), (6, .int y6), (7, .int (y7 + 1))]) [1, 2, 3, 4, 5, 6, 7, 0] rfl ?_
  exact hK12 _ y1 y2 y3 y4 y5 y6 (y7 + 1) h
set_option maxRecDepth 100000 in
set_option maxHeartbeats 4000000 in
theorem t_X11_isBought_81 {Γ : gb_X} {sh : List gb_Sh} {out : gb_G × Int32} (hS : gb_S sh) {K83 : gb_G → Int32 → Int32 → Int32 → Int32 → Int32 → Int32 → Int32 → Option (gb_G × Int32)} (hK83 : ∀ (g : gb_G) (y1 : Int32) (y2 : Int32) (y3 : Int32) (y4 : Int32) (y5 : Int32) (y6 : Int32) (y7 : Int32), K83 g y1 y2 y3 y4 y5 y6 y7 = some out → gb_J Γ M_X11_isBought 6 (gb_Ri sh out) 0 0 sh g 83 [(0, .ref 77), (1, .int y1), (2, .int y2), (3, .int y3), (4, .int y4), (5, .int y5), (6, .int y6), (7, .int y7)] []) : ∀ (g : gb_G) (y1 : Int32) (y2 : Int32) (y3 : Int32) (y4 : Int32) (y5 : Int32) (y7 : Int32) (z0 : Int32), f_X11_isBought_81 sh K83 g y1 y2 y3 y4 y5 y7 z0 = some out → gb_J Γ M_X11_isBought 6 (gb_Ri sh out) 0 0 sh g 81 [(0, .ref 77), (1, .int y1), (2, .int y2), (3, .int y3), (4, .int y4), (5, .int y5), (7, .int y7)] [.int z0] := by
  intro g y1 y2 y3 y4 y5 y7 z0 h
  unfold f_X11_isBought_81 at h
  refine gb_istore [(6, .int z0), (0, .ref 77), (1, .int y1), (2, .int y2), (3, .int y3), (4, .int y4), (5, .int y5), (7, .int y7)] d_X11_isBought_81 (Nat.le_of_ble_eq_true rfl) rfl ?_
  refine gb_pick (lv' := [(0, .ref 77), (1, .int y1), (2, .int y2), (3, .int y3), (4, .int y4), (5, .int y5), (6, .int z0), (7, .int y7)]) [1, 2, 3, 4, 5, 6, 0, 7] rfl ?_
  exact hK83 _ y1 y2 y3 y4 y5 z0 y7 h
set_option maxRecDepth 100000 in
set_option maxHeartbeats 4000000 in
theorem t_X11_isBought_12 {Γ : gb_X} {sh : List gb_Sh} {out : gb_G × Int32} (hS : gb_S sh) : ∀ (n : Nat) (g : gb_G) (y1 : Int32) (y2 : Int32) (y3 : Int32) (y4 : Int32) (y5 : Int32) (y6 : Int32) (y7 : Int32), f_X11_isBought_12 sh n g y1 y2 y3 y4 y5 y6 y7 = some out → gb_J Γ M_X11_isBought 6 (gb_Ri sh out) 0 0 sh g 12 [(0, .ref 77), (1, .int y1), (2, .int y2), (3, .int y3), (4, .int y4), (5, .int y5), (6, .int y6), (7, .int y7)] [] := by
  intro n
  induction n with
  | zero => intro g y1 y2 y3 y4 y5 y6 y7 h; cases h
  | succ n ih =>
    intro g y1 y2 y3 y4 y5 y6 y7 h
    rw [f_X11_isBought_12] at h
    refine gb_iload d_X11_isBought_12 rfl ?_
    refine gb_aload_n d_X11_isBought_14 rfl ?_
    refine gb_getr (r := 79) f_X11_13 (hS 77 _ rfl) rfl d_X11_isBought_15 ?_
    refine gb_iconst 0 d_X11_isBought_18 rfl ?_
    refine gb_iald_ 0 rfl (hS 79 _ rfl) (by unfold vp_in; decide) d_X11_isBought_19 ?_
    refine gb_icmp_ge 89 d_X11_isBought_20 (by decide) (fun hc => ?_) (fun hc => ?_)
    · have h := gb_it hc h
      refine gb_iload d_X11_isBought_89 rfl ?_
      refine gb_if_eq 110 d_X11_isBought_91 (by decide) (fun hc => ?_) (fun hc => ?_)
      · have h := gb_it hc h
        refine gb_iconst 0 d_X11_isBought_110 rfl ?_
        cases h
        exact gb_zret d_X11_isBought_111 rfl rfl ⟨rfl, rfl, rfl⟩
      · have h := gb_if hc h
        refine gb_iload d_X11_isBought_94 rfl ?_
        refine gb_iload_n d_X11_isBought_96 rfl ?_
        refine gb_icmp_ne 110 d_X11_isBought_97 (by decide) (fun hc => ?_) (fun hc => ?_)
        · have h := gb_if hc h
          refine gb_iconst 0 d_X11_isBought_110 rfl ?_
          cases h
          exact gb_zret d_X11_isBought_111 rfl rfl ⟨rfl, rfl, rfl⟩
        · have h := gb_it hc h
          refine gb_iload d_X11_isBought_100 rfl ?_
          refine gb_iload_n d_X11_isBought_102 rfl ?_
          refine gb_icmp_ne 110 d_X11_isBought_103 (by decide) (fun hc => ?_) (fun hc => ?_)
          · have h := gb_if hc h
            refine gb_iconst 0 d_X11_isBought_110 rfl ?_
            cases h
            exact gb_zret d_X11_isBought_111 rfl rfl ⟨rfl, rfl, rfl⟩
          · have h := gb_it hc h
            refine gb_iconst 1 d_X11_isBought_106 rfl ?_
            refine gb_goto 111 d_X11_isBought_107 (by decide) ?_
            cases h
            exact gb_zret d_X11_isBought_111 rfl rfl ⟨rfl, rfl, rfl⟩
    · have h := gb_if hc h
      refine gb_iload_n d_X11_isBought_23 rfl ?_
      refine gb_iload d_X11_isBought_24 rfl ?_
      obtain ⟨r1, e2, h⟩ := gb_bd_e h
      refine gb_cSi (As := [.int y1, .int y7]) (rest := []) m_X11_469 (t_X11_is (Γ := Γ) hS e2) (Nat.le_of_ble_eq_true rfl) rfl rfl (Nat.le_of_ble_eq_true rfl) d_X11_isBought_26 ?_
      refine gb_if_eq 83 d_X11_isBought_29 (by decide) (fun hc => ?_) (fun hc => ?_)
      · have h := gb_it hc h
        exact t_X11_isBought_83 hS (fun w w0 w1 w2 w3 w4 w5 w6 hw => ih w w0 w1 w2 w3 w4 w5 w6 hw) _ y1 y2 y3 y4 y5 y6 y7 h
      · have h := gb_if hc h
        refine gb_iload d_X11_isBought_32 rfl ?_
        refine gb_aload_n d_X11_isBought_34 rfl ?_
        refine gb_getr (r := 79) f_X11_13 (hS 77 _ rfl) rfl d_X11_isBought_35 ?_
        refine gb_bipush 8 d_X11_isBought_38 rfl ?_
        refine gb_iload d_X11_isBought_40 rfl ?_
        refine gb_iadd d_X11_isBought_42 ?_
        obtain ⟨hi3, h⟩ := gb_ck_e h
        refine gb_iald_ ((8 + y7).toNatClampNeg) rfl (hS 79 _ rfl) hi3 d_X11_isBought_43 ?_
        refine gb_iadd d_X11_isBought_44 ?_
        refine gb_istore [(4, .int (y4 + (r1.1.1 79 ((8 + y7).toNatClampNeg)))), (0, .ref 77), (1, .int y1), (2, .int y2), (3, .int y3), (5, .int y5), (6, .int y6), (7, .int y7)] d_X11_isBought_45 (Nat.le_of_ble_eq_true rfl) rfl ?_
        refine gb_iload d_X11_isBought_47 rfl ?_
        refine gb_aload_n d_X11_isBought_49 rfl ?_
        refine gb_iload d_X11_isBought_50 rfl ?_
        obtain ⟨r4, e5, h⟩ := gb_bd_e h
        refine gb_cVi (As := [.int y7]) (rest := [.int y5]) m_X11_195 (t_X11_gladsOf (Γ := Γ) hS e5) (hS 77 _ rfl) rfl (Nat.le_of_ble_eq_true rfl) rfl rfl (Nat.le_of_ble_eq_true rfl) d_X11_isBought_52 ?_
        refine gb_iadd d_X11_isBought_55 ?_
        refine gb_istore [(5, .int (y5 + r4.2)), (4, .int (y4 + (r1.1.1 79 ((8 + y7).toNatClampNeg)))), (0, .ref 77), (1, .int y1), (2, .int y2), (3, .int y3), (6, .int y6), (7, .int y7)] d_X11_isBought_56 (Nat.le_of_ble_eq_true rfl) rfl ?_
        refine gb_iload d_X11_isBought_58 rfl ?_
        refine gb_if_eq 80 d_X11_isBought_60 (by decide) (fun hc => ?_) (fun hc => ?_)
        · have h := gb_it hc h
          refine gb_iconst 0 d_X11_isBought_80 rfl ?_
          refine gb_pick (lv' := [(0, .ref 77), (1, .int y1), (2, .int y2), (3, .int y3), (4, .int (y4 + (r1.1.1 79 ((8 + y7).toNatClampNeg)))), (5, .int (y5 + r4.2)), (7, .int y7)]) [2, 3, 4, 5, 1, 0, 7] rfl ?_
          exact t_X11_isBought_81 hS (fun w w0 w1 w2 w3 w4 w5 w6 hw => t_X11_isBought_83 hS (fun w w0 w1 w2 w3 w4 w5 w6 hw => ih w w0 w1 w2 w3 w4 w5 w6 hw) w w0 w1 w2 w3 w4 w5 w6 hw) _ y1 y2 y3 (y4 + (r1.1.1 79 ((8 + y7).toNatClampNeg))) (y5 + r4.2) y7 0 h
        · have h := gb_if hc h
          refine gb_aload_n d_X11_isBought_63 rfl ?_
          refine gb_getr (r := 79) f_X11_13 (hS 77 _ rfl) rfl d_X11_isBought_64 ?_
          refine gb_bipush 16 d_X11_isBought_67 rfl ?_
          refine gb_iload d_X11_isBought_69 rfl ?_
          refine gb_iadd d_X11_isBought_71 ?_
          obtain ⟨hi6, h⟩ := gb_ck_e h
          refine gb_iald_ ((16 + y7).toNatClampNeg) rfl (hS 79 _ rfl) hi6 d_X11_isBought_72 ?_
          refine gb_if_ne 80 d_X11_isBought_73 (by decide) (fun hc => ?_) (fun hc => ?_)
          · have h := gb_if hc h
            refine gb_iconst 0 d_X11_isBought_80 rfl ?_
            refine gb_pick (lv' := [(0, .ref 77), (1, .int y1), (2, .int y2), (3, .int y3), (4, .int (y4 + (r1.1.1 79 ((8 + y7).toNatClampNeg)))), (5, .int (y5 + r4.2)), (7, .int y7)]) [2, 3, 4, 5, 1, 0, 7] rfl ?_
            exact t_X11_isBought_81 hS (fun w w0 w1 w2 w3 w4 w5 w6 hw => t_X11_isBought_83 hS (fun w w0 w1 w2 w3 w4 w5 w6 hw => ih w w0 w1 w2 w3 w4 w5 w6 hw) w w0 w1 w2 w3 w4 w5 w6 hw) _ y1 y2 y3 (y4 + (r1.1.1 79 ((8 + y7).toNatClampNeg))) (y5 + r4.2) y7 0 h
          · have h := gb_it hc h
            refine gb_iconst 1 d_X11_isBought_76 rfl ?_
            refine gb_goto 81 d_X11_isBought_77 (by decide) ?_
            refine gb_pick (lv' := [(0, .ref 77), (1, .int y1), (2, .int y2), (3, .int y3), (4, .int (y4 + (r1.1.1 79 ((8 + y7).toNatClampNeg)))), (5, .int (y5 + r4.2)), (7, .int y7)]) [2, 3, 4, 5, 1, 0, 7] rfl ?_
            exact t_X11_isBought_81 hS (fun w w0 w1 w2 w3 w4 w5 w6 hw => t_X11_isBought_83 hS (fun w w0 w1 w2 w3 w4 w5 w6 hw => ih w w0 w1 w2 w3 w4 w5 w6 hw) w w0 w1 w2 w3 w4 w5 w6 hw) _ y1 y2 y3 (y4 + (r1.1.1 79 ((8 + y7).toNatClampNeg))) (y5 + r4.2) y7 1 h
set_option maxRecDepth 100000 in
set_option maxHeartbeats 4000000 in
theorem t_X11_isBought {Γ : gb_X} {sh : List gb_Sh} {x1 : Int32} {x2 : Int32} {x3 : Int32} {out : gb_G × Int32} (hS : gb_S sh) {g : gb_G} (h : f_X11_isBought sh g x1 x2 x3 = some out) : gb_C Γ M_X11_isBought 6 0 0 sh g [.ref 77, .int x1, .int x2, .int x3] (gb_Ri sh out) := by
  refine gb_C.of rfl (Nat.le_of_ble_eq_true rfl) ?_
  refine gb_pick (lv' := [(0, .ref 77), (1, .int x1), (2, .int x2), (3, .int x3)]) [0, 1, 2, 3] rfl ?_
  unfold f_X11_isBought at h
  refine gb_iconst 0 d_X11_isBought_0 rfl ?_
  refine gb_istore [(4, .int 0), (0, .ref 77), (1, .int x1), (2, .int x2), (3, .int x3)] d_X11_isBought_1 (Nat.le_of_ble_eq_true rfl) rfl ?_
  refine gb_iconst 0 d_X11_isBought_3 rfl ?_
  refine gb_istore [(5, .int 0), (4, .int 0), (0, .ref 77), (1, .int x1), (2, .int x2), (3, .int x3)] d_X11_isBought_4 (Nat.le_of_ble_eq_true rfl) rfl ?_
  refine gb_iconst 1 d_X11_isBought_6 rfl ?_
  refine gb_istore [(6, .int 1), (5, .int 0), (4, .int 0), (0, .ref 77), (1, .int x1), (2, .int x2), (3, .int x3)] d_X11_isBought_7 (Nat.le_of_ble_eq_true rfl) rfl ?_
  refine gb_iconst 0 d_X11_isBought_9 rfl ?_
  refine gb_istore [(7, .int 0), (6, .int 1), (5, .int 0), (4, .int 0), (0, .ref 77), (1, .int x1), (2, .int x2), (3, .int x3)] d_X11_isBought_10 (Nat.le_of_ble_eq_true rfl) rfl ?_
  refine gb_pick (lv' := [(0, .ref 77), (1, .int x1), (2, .int x2), (3, .int x3), (4, .int 0), (5, .int 0), (6, .int 1), (7, .int 0)]) [4, 5, 6, 7, 3, 2, 1, 0] rfl ?_
  exact t_X11_isBought_12 hS  gb_N _ x1 x2 x3 0 0 1 0 h
-- X11_areSpent
noncomputable def f_X11_areSpent (sh : List gb_Sh) (g : gb_G) (x1 : Int32) (x2 : Int32) : Option (gb_G × Int32) := gb_bd (f_X11_in sh g x1.toInt64 0 99) (fun r1 => if r1.2 = 0 then (some (r1.1, 0)) else (gb_bd (f_X11_in sh r1.1 x2.toInt64 0 99) (fun r3 => if r3.2 = 0 then (some (r3.1, 0)) else (some (r3.1, 1)))))
set_option maxRecDepth 100000 in
set_option maxHeartbeats 4000000 in
theorem t_X11_areSpent {Γ : gb_X} {sh : List gb_Sh} {x1 : Int32} {x2 : Int32} {out : gb_G × Int32} (hS : gb_S sh) {g : gb_G} (h : f_X11_areSpent sh g x1 x2 = some out) : gb_C Γ M_X11_areSpent 1 0 0 sh g [.int x1, .int x2] (gb_Ri sh out) := by
  refine gb_C.of rfl (Nat.le_of_ble_eq_true rfl) ?_
  refine gb_pick (lv' := [(0, .int x1), (1, .int x2)]) [0, 1] rfl ?_
  unfold f_X11_areSpent at h
  refine gb_iload_n d_X11_areSpent_0 rfl ?_
  refine gb_i2l d_X11_areSpent_1 ?_
  refine gb_lconst 0 d_X11_areSpent_2 rfl ?_
  refine gb_ldc2 99 k_X11_174 d_X11_areSpent_3 ?_
  obtain ⟨r1, e2, h⟩ := gb_bd_e h
  refine gb_cSi (As := [.long x1.toInt64, .long 0, .long 99]) (rest := []) m_X11_165 (t_X11_in (Γ := Γ) hS e2) (Nat.le_of_ble_eq_true rfl) rfl rfl (Nat.le_of_ble_eq_true rfl) d_X11_areSpent_6 ?_
  refine gb_if_eq 28 d_X11_areSpent_9 (by decide) (fun hc => ?_) (fun hc => ?_)
  · have h := gb_it hc h
    refine gb_iconst 0 d_X11_areSpent_28 rfl ?_
    cases h
    exact gb_zret d_X11_areSpent_29 rfl rfl ⟨rfl, rfl, rfl⟩
  · have h := gb_if hc h
    refine gb_iload_n d_X11_areSpent_12 rfl ?_
    refine gb_i2l d_X11_areSpent_13 ?_
    refine gb_lconst 0 d_X11_areSpent_14 rfl ?_
    refine gb_ldc2 99 k_X11_174 d_X11_areSpent_15 ?_
    obtain ⟨r3, e4, h⟩ := gb_bd_e h
    refine gb_cSi (As := [.long x2.toInt64, .long 0, .long 99]) (rest := []) m_X11_165 (t_X11_in (Γ := Γ) hS e4) (Nat.le_of_ble_eq_true rfl) rfl rfl (Nat.le_of_ble_eq_true rfl) d_X11_areSpent_18 ?_
    refine gb_if_eq 28 d_X11_areSpent_21 (by decide) (fun hc => ?_) (fun hc => ?_)
    · have h := gb_it hc h
      refine gb_iconst 0 d_X11_areSpent_28 rfl ?_
      cases h
      exact gb_zret d_X11_areSpent_29 rfl rfl ⟨rfl, rfl, rfl⟩
    · have h := gb_if hc h
      refine gb_iconst 1 d_X11_areSpent_24 rfl ?_
      refine gb_goto 29 d_X11_areSpent_25 (by decide) ?_
      cases h
      exact gb_zret d_X11_areSpent_29 rfl rfl ⟨rfl, rfl, rfl⟩
-- X11_spent
noncomputable def f_X11_spent_66 (sh : List gb_Sh) (K24 : gb_G → Int32 → Int32 → Int32 → Int32 → Int32 → Int32 → Option (gb_G × Int32)) (g : gb_G) (y1 : Int32) (y2 : Int32) (y3 : Int32) (y4 : Int32) (y5 : Int32) (y6 : Int32) : Option (gb_G × Int32) := K24 g y1 y2 y3 y4 y5 (y6 + 1)
noncomputable def f_X11_spent_61 (sh : List gb_Sh) (K66 : gb_G → Int32 → Int32 → Int32 → Int32 → Int32 → Int32 → Option (gb_G × Int32)) (g : gb_G) (y1 : Int32) (y2 : Int32) (y3 : Int32) (y4 : Int32) (y6 : Int32) (z0 : Int32) : Option (gb_G × Int32) := K66 g y1 y2 y3 (y4 + 1) z0 y6
noncomputable def f_X11_spent_24 (sh : List gb_Sh) : Nat → gb_G → Int32 → Int32 → Int32 → Int32 → Int32 → Int32 → Option (gb_G × Int32)
  | 0, _, _, _, _, _, _, _ => none
  | n + 1, g, y1, y2, y3, y4, y5, y6 => if (1 <<< ((g.1 79 0) &&& 31)) ≤ y6 then (if y3 = (-1) then (some (g, y4)) else (some (g, y5))) else (gb_bd (f_X11_isBought sh g y6 y1 y2) (fun r4 => if r4.2 = 0 then (f_X11_spent_66 sh (fun w w0 w1 w2 w3 w4 w5 => f_X11_spent_24 sh n w w0 w1 w2 w3 w4 w5) r4.1 y1 y2 y3 y4 y5 y6) else (if y4 = y3 then (f_X11_spent_61 sh (fun w w0 w1 w2 w3 w4 w5 => f_X11_spent_66 sh (fun w w0 w1 w2 w3 w4 w5 => f_X11_spent_24 sh n w w0 w1 w2 w3 w4 w5) w w0 w1 w2 w3 w4 w5) r4.1 y1 y2 y3 y4 y6 y6) else (f_X11_spent_61 sh (fun w w0 w1 w2 w3 w4 w5 => f_X11_spent_66 sh (fun w w0 w1 w2 w3 w4 w5 => f_X11_spent_24 sh n w w0 w1 w2 w3 w4 w5) w w0 w1 w2 w3 w4 w5) r4.1 y1 y2 y3 y4 y6 y5))))
noncomputable def f_X11_spent (sh : List gb_Sh) (g : gb_G) (x1 : Int32) (x2 : Int32) (x3 : Int32) : Option (gb_G × Int32) := gb_let (gb_pi g 77 0 0) (fun g1 => gb_bd (f_X11_areSpent sh g1 x1 x2) (fun r2 => if r2.2 = 0 then (some (r2.1, (-1))) else (f_X11_spent_24 sh gb_N r2.1 x1 x2 x3 0 (-1) 0)))
set_option maxRecDepth 100000 in
set_option maxHeartbeats 4000000 in
theorem t_X11_spent_66 {Γ : gb_X} {sh : List gb_Sh} {out : gb_G × Int32} (hS : gb_S sh) {K24 : gb_G → Int32 → Int32 → Int32 → Int32 → Int32 → Int32 → Option (gb_G × Int32)} (hK24 : ∀ (g : gb_G) (y1 : Int32) (y2 : Int32) (y3 : Int32) (y4 : Int32) (y5 : Int32) (y6 : Int32), K24 g y1 y2 y3 y4 y5 y6 = some out → gb_J Γ M_X11_spent 7 (gb_Ri sh out) 0 0 sh g 24 [(0, .ref 77), (1, .int y1), (2, .int y2), (3, .int y3), (4, .int y4), (5, .int y5), (6, .int y6)] []) : ∀ (g : gb_G) (y1 : Int32) (y2 : Int32) (y3 : Int32) (y4 : Int32) (y5 : Int32) (y6 : Int32), f_X11_spent_66 sh K24 g y1 y2 y3 y4 y5 y6 = some out → gb_J Γ M_X11_spent 7 (gb_Ri sh out) 0 0 sh g 66 [(0, .ref 77), (1, .int y1), (2, .int y2), (3, .int y3), (4, .int y4), (5, .int y5), (6, .int y6)] [] := by
  intro g y1 y2 y3 y4 y5 y6 h
  unfold f_X11_spent_66 at h
  refine gb_iinc (y6 + 1) [(6, .int (y6 + 1)), (0, .ref 77), (1, .int y1), (2, .int y2), (3, .int y3), (4, .int y4), (5, .int y5)] d_X11_spent_66 (Nat.le_of_ble_eq_true rfl) rfl rfl rfl ?_
  refine gb_goto 24 d_X11_spent_69 (by decide) ?_
  refine gb_pick (lv' := [(0, .ref 77), (1, .int y1), (2, .int y2), (3, .int y3), (4, .int y4), (5, .int y5), (6, .int (y6 + 1))]) [1, 2, 3, 4, 5, 6, 0] rfl ?_
  exact hK24 _ y1 y2 y3 y4 y5 (y6 + 1) h
set_option maxRecDepth 100000 in
set_option maxHeartbeats 4000000 in
theorem t_X11_spent_61 {Γ : gb_X} {sh : List gb_Sh} {out : gb_G × Int32} (hS : gb_S sh) {K66 : gb_G → Int32 → Int32 → Int32 → Int32 → Int32 → Int32 → Option (gb_G × Int32)} (hK66 : ∀ (g : gb_G) (y1 : Int32) (y2 : Int32) (y3 : Int32) (y4 : Int32) (y5 : Int32) (y6 : Int32), K66 g y1 y2 y3 y4 y5 y6 = some out → gb_J Γ M_X11_spent 7 (gb_Ri sh out) 0 0 sh g 66 [(0, .ref 77), (1, .int y1), (2, .int y2), (3, .int y3), (4, .int y4), (5, .int y5), (6, .int y6)] []) : ∀ (g : gb_G) (y1 : Int32) (y2 : Int32) (y3 : Int32) (y4 : Int32) (y6 : Int32) (z0 : Int32), f_X11_spent_61 sh K66 g y1 y2 y3 y4 y6 z0 = some out → gb_J Γ M_X11_spent 7 (gb_Ri sh out) 0 0 sh g 61 [(0, .ref 77), (1, .int y1), (2, .int y2), (3, .int y3), (4, .int y4), (6, .int y6)] [.int z0] := by
  intro g y1 y2 y3 y4 y6 z0 h
  unfold f_X11_spent_61 at h
  refine gb_istore [(5, .int z0), (0, .ref 77), (1, .int y1), (2, .int y2), (3, .int y3), (4, .int y4), (6, .int y6)] d_X11_spent_61 (Nat.le_of_ble_eq_true rfl) rfl ?_
  refine gb_iinc (y4 + 1) [(4, .int (y4 + 1)), (5, .int z0), (0, .ref 77), (1, .int y1), (2, .int y2), (3, .int y3), (6, .int y6)] d_X11_spent_63 (Nat.le_of_ble_eq_true rfl) rfl rfl rfl ?_
  refine gb_pick (lv' := [(0, .ref 77), (1, .int y1), (2, .int y2), (3, .int y3), (4, .int (y4 + 1)), (5, .int z0), (6, .int y6)]) [2, 3, 4, 5, 0, 1, 6] rfl ?_
  exact hK66 _ y1 y2 y3 (y4 + 1) z0 y6 h
set_option maxRecDepth 100000 in
set_option maxHeartbeats 4000000 in
theorem t_X11_spent_24 {Γ : gb_X} {sh : List gb_Sh} {out : gb_G × Int32} (hS : gb_S sh) : ∀ (n : Nat) (g : gb_G) (y1 : Int32) (y2 : Int32) (y3 : Int32) (y4 : Int32) (y5 : Int32) (y6 : Int32), f_X11_spent_24 sh n g y1 y2 y3 y4 y5 y6 = some out → gb_J Γ M_X11_spent 7 (gb_Ri sh out) 0 0 sh g 24 [(0, .ref 77), (1, .int y1), (2, .int y2), (3, .int y3), (4, .int y4), (5, .int y5), (6, .int y6)] [] := by
  intro n
  induction n with
  | zero => intro g y1 y2 y3 y4 y5 y6 h; cases h
  | succ n ih =>
    intro g y1 y2 y3 y4 y5 y6 h
    rw [f_X11_spent_24] at h
    refine gb_iload d_X11_spent_24 rfl ?_
    refine gb_iconst 1 d_X11_spent_26 rfl ?_
    refine gb_aload_n d_X11_spent_27 rfl ?_
    refine gb_getr (r := 79) f_X11_13 (hS 77 _ rfl) rfl d_X11_spent_28 ?_
    refine gb_iconst 0 d_X11_spent_31 rfl ?_
    refine gb_iald_ 0 rfl (hS 79 _ rfl) (by unfold vp_in; decide) d_X11_spent_32 ?_
    refine gb_ishl d_X11_spent_33 ?_
    refine gb_icmp_ge 72 d_X11_spent_34 (by decide) (fun hc => ?_) (fun hc => ?_)
    · have h := gb_it hc h
      refine gb_iload_n d_X11_spent_72 rfl ?_
      refine gb_iconst (-1) d_X11_spent_73 rfl ?_
      refine gb_icmp_ne 82 d_X11_spent_74 (by decide) (fun hc => ?_) (fun hc => ?_)
      · have h := gb_if hc h
        refine gb_iload d_X11_spent_82 rfl ?_
        cases h
        exact gb_iret d_X11_spent_84 rfl ⟨rfl, rfl, rfl⟩
      · have h := gb_it hc h
        refine gb_iload d_X11_spent_77 rfl ?_
        refine gb_goto 84 d_X11_spent_79 (by decide) ?_
        cases h
        exact gb_iret d_X11_spent_84 rfl ⟨rfl, rfl, rfl⟩
    · have h := gb_if hc h
      refine gb_aload_n d_X11_spent_37 rfl ?_
      refine gb_iload d_X11_spent_38 rfl ?_
      refine gb_iload_n d_X11_spent_40 rfl ?_
      refine gb_iload_n d_X11_spent_41 rfl ?_
      obtain ⟨r4, e5, h⟩ := gb_bd_e h
      refine gb_cVi (As := [.int y6, .int y1, .int y2]) (rest := []) m_X11_488 (t_X11_isBought (Γ := Γ) hS e5) (hS 77 _ rfl) rfl (Nat.le_of_ble_eq_true rfl) rfl rfl (Nat.le_of_ble_eq_true rfl) d_X11_spent_42 ?_
      refine gb_if_eq 66 d_X11_spent_45 (by decide) (fun hc => ?_) (fun hc => ?_)
      · have h := gb_it hc h
        exact t_X11_spent_66 hS (fun w w0 w1 w2 w3 w4 w5 hw => ih w w0 w1 w2 w3 w4 w5 hw) _ y1 y2 y3 y4 y5 y6 h
      · have h := gb_if hc h
        refine gb_iload d_X11_spent_48 rfl ?_
        refine gb_iload_n d_X11_spent_50 rfl ?_
        refine gb_icmp_ne 59 d_X11_spent_51 (by decide) (fun hc => ?_) (fun hc => ?_)
        · have h := gb_if hc h
          refine gb_iload d_X11_spent_59 rfl ?_
          refine gb_pick (lv' := [(0, .ref 77), (1, .int y1), (2, .int y2), (3, .int y3), (4, .int y4), (6, .int y6)]) [0, 1, 2, 3, 4, 6] rfl ?_
          exact t_X11_spent_61 hS (fun w w0 w1 w2 w3 w4 w5 hw => t_X11_spent_66 hS (fun w w0 w1 w2 w3 w4 w5 hw => ih w w0 w1 w2 w3 w4 w5 hw) w w0 w1 w2 w3 w4 w5 hw) _ y1 y2 y3 y4 y6 y5 h
        · have h := gb_it hc h
          refine gb_iload d_X11_spent_54 rfl ?_
          refine gb_goto 61 d_X11_spent_56 (by decide) ?_
          refine gb_pick (lv' := [(0, .ref 77), (1, .int y1), (2, .int y2), (3, .int y3), (4, .int y4), (6, .int y6)]) [0, 1, 2, 3, 4, 6] rfl ?_
          exact t_X11_spent_61 hS (fun w w0 w1 w2 w3 w4 w5 hw => t_X11_spent_66 hS (fun w w0 w1 w2 w3 w4 w5 hw => ih w w0 w1 w2 w3 w4 w5 hw) w w0 w1 w2 w3 w4 w5 hw) _ y1 y2 y3 y4 y6 y6 h
set_option maxRecDepth 100000 in
set_option maxHeartbeats 4000000 in
theorem t_X11_spent {Γ : gb_X} {sh : List gb_Sh} {x1 : Int32} {x2 : Int32} {x3 : Int32} {out : gb_G × Int32} (hS : gb_S sh) {g : gb_G} (h : f_X11_spent sh g x1 x2 x3 = some out) : gb_C Γ M_X11_spent 7 0 0 sh g [.ref 77, .int x1, .int x2, .int x3] (gb_Ri sh out) := by
  refine gb_C.of rfl (Nat.le_of_ble_eq_true rfl) ?_
  refine gb_pick (lv' := [(0, .ref 77), (1, .int x1), (2, .int x2), (3, .int x3)]) [0, 1, 2, 3] rfl ?_
  unfold f_X11_spent at h
  refine gb_aload_n d_X11_spent_0 rfl ?_
  refine gb_iconst 0 d_X11_spent_1 rfl ?_
  refine gb_puti f_X11_145 (fun h => nomatch h) (hS 77 _ rfl) rfl rfl rfl d_X11_spent_2 ?_
  have h := gb_let_e h
  generalize gb_pi g 77 0 0 = g1 at h ⊢
  refine gb_iload_n d_X11_spent_5 rfl ?_
  refine gb_iload_n d_X11_spent_6 rfl ?_
  obtain ⟨r2, e3, h⟩ := gb_bd_e h
  refine gb_cSi (As := [.int x1, .int x2]) (rest := []) m_X11_485 (t_X11_areSpent (Γ := Γ) hS e3) (Nat.le_of_ble_eq_true rfl) rfl rfl (Nat.le_of_ble_eq_true rfl) d_X11_spent_7 ?_
  refine gb_if_ne 15 d_X11_spent_10 (by decide) (fun hc => ?_) (fun hc => ?_)
  · have h := gb_if hc h
    refine gb_iconst 0 d_X11_spent_15 rfl ?_
    refine gb_istore [(4, .int 0), (0, .ref 77), (1, .int x1), (2, .int x2), (3, .int x3)] d_X11_spent_16 (Nat.le_of_ble_eq_true rfl) rfl ?_
    refine gb_iconst (-1) d_X11_spent_18 rfl ?_
    refine gb_istore [(5, .int (-1)), (4, .int 0), (0, .ref 77), (1, .int x1), (2, .int x2), (3, .int x3)] d_X11_spent_19 (Nat.le_of_ble_eq_true rfl) rfl ?_
    refine gb_iconst 0 d_X11_spent_21 rfl ?_
    refine gb_istore [(6, .int 0), (5, .int (-1)), (4, .int 0), (0, .ref 77), (1, .int x1), (2, .int x2), (3, .int x3)] d_X11_spent_22 (Nat.le_of_ble_eq_true rfl) rfl ?_
    refine gb_pick (lv' := [(0, .ref 77), (1, .int x1), (2, .int x2), (3, .int x3), (4, .int 0), (5, .int (-1)), (6, .int 0)]) [3, 4, 5, 6, 2, 1, 0] rfl ?_
    exact t_X11_spent_24 hS  gb_N _ x1 x2 x3 0 (-1) 0 h
  · have h := gb_it hc h
    refine gb_iconst (-1) d_X11_spent_13 rfl ?_
    cases h
    exact gb_iret d_X11_spent_14 rfl ⟨rfl, rfl, rfl⟩
