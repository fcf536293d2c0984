-- X11_years
noncomputable def f_X11_years_29 (sh : List gb_Sh) (g : gb_G)  : Option (gb_G × Int32) := gb_bd (f_X11_tell sh g (-1)) (fun r4 => some (r4.1, r4.2))
noncomputable def f_X11_years_235 (sh : List gb_Sh) : Nat → gb_G → Int32 → Int32 → Option (gb_G × Int32)
  | 0, _, _, _ => none
  | n + 1, g, y3, y4 => if (g.1 77 55) ≤ y4 then (gb_bd (f_X11_putBack sh g 16) (fun r12 => gb_bd (f_X11_tell sh r12 y3) (fun r14 => some (r14.1, r14.2)))) else (gb_ck (8 + y4) 5520 (gb_ck y4 16 (gb_let (gb_pi g 104 y4.toNatClampNeg (g.1 79 ((8 + y4).toNatClampNeg))) (fun g18 => gb_ck (16 + y4) 5520 (gb_ck (8 + y4) 16 (gb_let (gb_pi g18 104 ((8 + y4).toNatClampNeg) (g18.1 79 ((16 + y4).toNatClampNeg))) (fun g21 => f_X11_years_235 sh n g21 y3 (y4 + 1))))))))
noncomputable def f_X11_years_222 (sh : List gb_Sh) (g : gb_G) (y3 : Int32) : Option (gb_G × Int32) := gb_let (gb_pi g 77 55 (g.1 79 0)) (fun g11 => f_X11_years_235 sh gb_N g11 y3 0)
noncomputable def f_X11_years_215 (sh : List gb_Sh) (K68 : gb_G → Int32 → Int32 → Int32 → Option (gb_G × Int32)) (g : gb_G) (y2 : Int32) (y4 : Int32) (z0 : Int32) : Option (gb_G × Int32) := K68 g y2 z0 (y4 + 1)
noncomputable def f_X11_years_184 (sh : List gb_Sh) (K68 : gb_G → Int32 → Int32 → Int32 → Option (gb_G × Int32)) (g : gb_G) (y2 : Int32) (y3 : Int32) (y4 : Int32) (z0 : Int32) (z1 : Int32) (z2 : Int32) : Option (gb_G × Int32) := gb_bd (f_X11_within sh g ((z1 + z0).toInt64) 1 12) (fun r30 => gb_ck z2 5520 (gb_let (gb_pi r30.1 79 z2.toNatClampNeg r30.2) (fun g33 => gb_bd (f_X11_passIt sh g33) (fun r34 => gb_bd (f_X11_pensionNow sh r34) (fun r36 => if r36.2 ≤ y3 then (f_X11_years_215 sh K68 r36.1 y2 y4 y3) else (f_X11_years_215 sh K68 r36.1 y2 y4 r36.2))))))
noncomputable def f_X11_years_143 (sh : List gb_Sh) (K68 : gb_G → Int32 → Int32 → Int32 → Option (gb_G × Int32)) (g : gb_G) (y2 : Int32) (y3 : Int32) (y4 : Int32) (y5 : Int32) (y6 : Int32) (z0 : Int32) (z1 : Int32) : Option (gb_G × Int32) := gb_ck z1 5520 (gb_let (gb_pi g 79 z1.toNatClampNeg z0) (fun g28 => gb_ck (8 + y5) 5520 (if y6 = 2 then (f_X11_years_184 sh K68 g28 y2 y3 y4 1 (g28.1 79 ((8 + y5).toNatClampNeg)) (8 + y5)) else (if y6 = 3 then (f_X11_years_184 sh K68 g28 y2 y3 y4 (-1) (g28.1 79 ((8 + y5).toNatClampNeg)) (8 + y5)) else (f_X11_years_184 sh K68 g28 y2 y3 y4 0 (g28.1 79 ((8 + y5).toNatClampNeg)) (8 + y5))))))
noncomputable def f_X11_years_68 (sh : List gb_Sh) : Nat → gb_G → Int32 → Int32 → Int32 → Option (gb_G × Int32)
  | 0, _, _, _, _ => none
  | n + 1, g, y2, y3, y4 => if y2 ≤ y4 then (f_X11_years_222 sh g y3) else (if 999 ≤ (g.1 79 5) then (f_X11_years_222 sh g y3) else (gb_bd (f_X11_draw sh g (g.1 79 0)) (fun r22 => gb_bd (f_X11_draw sh r22.1 4) (fun r24 => if r24.2 = 0 then (f_X11_years_143 sh (fun w w0 w1 w2 => f_X11_years_68 sh n w w0 w1 w2) r24.1 y2 y3 y4 r22.2 r24.2 1 (16 + r22.2)) else (if r24.2 = 1 then (f_X11_years_143 sh (fun w w0 w1 w2 => f_X11_years_68 sh n w w0 w1 w2) r24.1 y2 y3 y4 r22.2 r24.2 0 (16 + r22.2)) else (gb_ck (16 + r22.2) 5520 (f_X11_years_143 sh (fun w w0 w1 w2 => f_X11_years_68 sh n w w0 w1 w2) r24.1 y2 y3 y4 r22.2 r24.2 (r24.1.1 79 ((16 + r22.2).toNatClampNeg)) (16 + r22.2))))))))
noncomputable def f_X11_years (sh : List gb_Sh) (g : gb_G) (x1 : Int32) (x2 : Int32) : Option (gb_G × Int32) := gb_let (gb_pi g 77 0 0) (fun g1 => gb_bd (f_X11_in sh g1 x1.toInt64 0 1000000) (fun r2 => if r2.2 = 0 then (f_X11_years_29 sh r2.1 ) else (gb_bd (f_X11_in sh r2.1 x2.toInt64 1 60) (fun r6 => if r6.2 = 0 then (f_X11_years_29 sh r6.1 ) else (if (r6.1.1 79 0) = 0 then (gb_bd (f_X11_tell sh r6.1 (-3)) (fun r38 => some (r38.1, r38.2))) else (gb_bd (f_X11_keepAll sh r6.1 16) (fun r8 => gb_let (gb_pj r8 77 53 x1.toInt64) (fun g10 => f_X11_years_68 sh gb_N g10 x2 0 0))))))))
set_option maxRecDepth 100000 in
set_option maxHeartbeats 4000000 in
theorem t_X11_years_29 {Γ : gb_X} {sh : List gb_Sh} {out : gb_G × Int32} (hS : gb_S sh) : ∀ (g : gb_G) , f_X11_years_29 sh g  = some out → gb_J Γ M_X11_years 8 (gb_Ri sh out) 0 0 sh g 29 [(0, .ref 77)] [] := by
  intro g  h
  unfold f_X11_years_29 at h
  refine gb_aload_n d_X11_years_29 rfl ?_
  refine gb_iconst (-1) d_X11_years_30 rfl ?_
  obtain ⟨r4, e5, h⟩ := gb_bd_e h
  refine gb_cVi (As := [.int (-1)]) (rest := []) m_X11_154 (t_X11_tell (Γ := Γ) hS e5) (hS 77 _ rfl) rfl (Nat.le_of_ble_eq_true rfl) rfl rfl (Nat.le_of_ble_eq_true rfl) d_X11_years_31 ?_
  cases h
  exact gb_iret d_X11_years_34 rfl ⟨rfl, rfl, rfl⟩
set_option maxRecDepth 100000 in
set_option maxHeartbeats 4000000 in
theorem t_X11_years_235 {Γ : gb_X} {sh : List gb_Sh} {out : gb_G × Int32} (hS : gb_S sh) : ∀ (n : Nat) (g : gb_G) (y3 : Int32) (y4 : Int32), f_X11_years_235 sh n g y3 y4 = some out → gb_J Γ M_X11_years 8 (gb_Ri sh out) 0 0 sh g 235 [(0, .ref 77), (3, .int y3), (4, .int y4)] [] := by
  intro n
  induction n with
  | zero => intro g y3 y4 h; cases h
  | succ n ih =>
    intro g y3 y4 h
    rw [f_X11_years_235] at h
    refine gb_iload d_X11_years_235 rfl ?_
    refine gb_aload_n d_X11_years_237 rfl ?_
    refine gb_geti f_X11_142 (hS 77 _ rfl) rfl d_X11_years_238 ?_
    refine gb_icmp_ge 287 d_X11_years_241 (by decide) (fun hc => ?_) (fun hc => ?_)
    · have h := gb_it hc h
      refine gb_aload_n d_X11_years_287 rfl ?_
      refine gb_bipush 16 d_X11_years_288 rfl ?_
      obtain ⟨r12, e13, h⟩ := gb_bd_e h
      refine gb_cVv (As := [.int 16]) (rest := []) m_X11_162 (t_X11_putBack (Γ := Γ) hS e13) (hS 77 _ rfl) rfl (Nat.le_of_ble_eq_true rfl) rfl rfl (Nat.le_of_ble_eq_true rfl) d_X11_years_290 ?_
      refine gb_aload_n d_X11_years_293 rfl ?_
      refine gb_iload_n d_X11_years_294 rfl ?_
      obtain ⟨r14, e15, h⟩ := gb_bd_e h
      refine gb_cVi (As := [.int y3]) (rest := []) m_X11_154 (t_X11_tell (Γ := Γ) hS e15) (hS 77 _ rfl) rfl (Nat.le_of_ble_eq_true rfl) rfl rfl (Nat.le_of_ble_eq_true rfl) d_X11_years_295 ?_
      cases h
      exact gb_iret d_X11_years_298 rfl ⟨rfl, rfl, rfl⟩
    · have h := gb_if hc h
      refine gb_aload_n d_X11_years_244 rfl ?_
      refine gb_getr (r := 104) f_X11_139 (hS 77 _ rfl) rfl d_X11_years_245 ?_
      refine gb_iload d_X11_years_248 rfl ?_
      refine gb_aload_n d_X11_years_250 rfl ?_
      refine gb_getr (r := 79) f_X11_13 (hS 77 _ rfl) rfl d_X11_years_251 ?_
      refine gb_bipush 8 d_X11_years_254 rfl ?_
      refine gb_iload d_X11_years_256 rfl ?_
      refine gb_iadd d_X11_years_258 ?_
      obtain ⟨hi16, h⟩ := gb_ck_e h
      refine gb_iald_ ((8 + y4).toNatClampNeg) rfl (hS 79 _ rfl) hi16 d_X11_years_259 ?_
      obtain ⟨hi17, h⟩ := gb_ck_e h
      refine gb_iast_ y4.toNatClampNeg rfl (hS 104 _ rfl) hi17 d_X11_years_260 ?_
      have h := gb_let_e h
      generalize gb_pi g 104 y4.toNatClampNeg (g.1 79 ((8 + y4).toNatClampNeg)) = g18 at h ⊢
      refine gb_aload_n d_X11_years_261 rfl ?_
      refine gb_getr (r := 104) f_X11_139 (hS 77 _ rfl) rfl d_X11_years_262 ?_
      refine gb_bipush 8 d_X11_years_265 rfl ?_
      refine gb_iload d_X11_years_267 rfl ?_
      refine gb_iadd d_X11_years_269 ?_
      refine gb_aload_n d_X11_years_270 rfl ?_
      refine gb_getr (r := 79) f_X11_13 (hS 77 _ rfl) rfl d_X11_years_271 ?_
      refine gb_bipush 16 d_X11_years_274 rfl ?_
      refine gb_iload d_X11_years_276 rfl ?_
      refine gb_iadd d_X11_years_278 ?_
      obtain ⟨hi19, h⟩ := gb_ck_e h
      refine gb_iald_ ((16 + y4).toNatClampNeg) rfl (hS 79 _ rfl) hi19 d_X11_years_279 ?_
      obtain ⟨hi20, h⟩ := gb_ck_e h
      refine gb_iast_ ((8 + y4).toNatClampNeg) rfl (hS 104 _ rfl) hi20 d_X11_years_280 ?_
      have h := gb_let_e h
      generalize gb_pi g18 104 ((8 + y4).toNatClampNeg) (g18.1 79 ((16 + y4).toNatClampNeg)) = g21 at h ⊢
      refine gb_iinc (y4 + 1) [(4, .int (y4 + 1)), (0, .ref 77), (3, .int y3)] d_X11_years_281 (Nat.le_of_ble_eq_true rfl) rfl rfl rfl ?_
      refine gb_goto 235 d_X11_years_284 (by decide) ?_
      refine gb_pick (lv' := [(0, .ref 77), (3, .int y3), (4, .int (y4 + 1))]) [1, 2, 0] rfl ?_
      exact ih _ y3 (y4 + 1) h
set_option maxRecDepth 100000 in
set_option maxHeartbeats 4000000 in
theorem t_X11_years_222 {Γ : gb_X} {sh : List gb_Sh} {out : gb_G × Int32} (hS : gb_S sh) : ∀ (g : gb_G) (y3 : Int32), f_X11_years_222 sh g y3 = some out → gb_J Γ M_X11_years 8 (gb_Ri sh out) 0 0 sh g 222 [(0, .ref 77), (3, .int y3)] [] := by
  intro g y3 h
  unfold f_X11_years_222 at h
  refine gb_aload_n d_X11_years_222 rfl ?_
  refine gb_aload_n d_X11_years_223 rfl ?_
  refine gb_getr (r := 79) f_X11_13 (hS 77 _ rfl) rfl d_X11_years_224 ?_
  refine gb_iconst 0 d_X11_years_227 rfl ?_
  refine gb_iald_ 0 rfl (hS 79 _ rfl) (by unfold vp_in; decide) d_X11_years_228 ?_
  refine gb_puti f_X11_142 (fun h => nomatch h) (hS 77 _ rfl) rfl rfl rfl d_X11_years_229 ?_
  have h := gb_let_e h
  generalize gb_pi g 77 55 (g.1 79 0) = g11 at h ⊢
  refine gb_iconst 0 d_X11_years_232 rfl ?_
  refine gb_istore [(4, .int 0), (0, .ref 77), (3, .int y3)] d_X11_years_233 (Nat.le_of_ble_eq_true rfl) rfl ?_
  refine gb_pick (lv' := [(0, .ref 77), (3, .int y3), (4, .int 0)]) [1, 2, 0] rfl ?_
  exact t_X11_years_235 hS  gb_N _ y3 0 h
set_option maxRecDepth 100000 in
set_option maxHeartbeats 4000000 in
theorem t_X11_years_215 {Γ : gb_X} {sh : List gb_Sh} {out : gb_G × Int32} (hS : gb_S sh) {K68 : gb_G → Int32 → Int32 → Int32 → Option (gb_G × Int32)} (hK68 : ∀ (g : gb_G) (y2 : Int32) (y3 : Int32) (y4 : Int32), K68 g y2 y3 y4 = some out → gb_J Γ M_X11_years 8 (gb_Ri sh out) 0 0 sh g 68 [(0, .ref 77), (2, .int y2), (3, .int y3), (4, .int y4)] []) : ∀ (g : gb_G) (y2 : Int32) (y4 : Int32) (z0 : Int32), f_X11_years_215 sh K68 g y2 y4 z0 = some out → gb_J Γ M_X11_years 8 (gb_Ri sh out) 0 0 sh g 215 [(0, .ref 77), (2, .int y2), (4, .int y4)] [.int z0] := by
  intro g y2 y4 z0 h
  unfold f_X11_years_215 at h
  refine gb_istore_n [(3, .int z0), (0, .ref 77), (2, .int y2), (4, .int y4)] d_X11_years_215 (Nat.le_of_ble_eq_true rfl) rfl ?_
  refine gb_iinc (y4 + 1) [(4, .int (y4 + 1)), (3, .int z0), (0, .ref 77), (2, .int y2)] d_X11_years_216 (Nat.le_of_ble_eq_true rfl) rfl rfl rfl ?_
  refine gb_goto 68 d_X11_years_219 (by decide) ?_
  refine gb_pick (lv' := [(0, .ref 77), (2, .int y2), (3, .int z0), (4, .int (y4 + 1))]) [2, 3, 1, 0] rfl ?_
  exact hK68 _ y2 z0 (y4 + 1) h
set_option maxRecDepth 100000 in
set_option maxHeartbeats 4000000 in
theorem t_X11_years_184 {Γ : gb_X} {sh : List gb_Sh} {out : gb_G × Int32} (hS : gb_S sh) {K68 : gb_G → Int32 → Int32 → Int32 → Option (gb_G × Int32)} (hK68 : ∀ (g : gb_G) (y2 : Int32) (y3 : Int32) (y4 : Int32), K68 g y2 y3 y4 = some out → gb_J Γ M_X11_years 8 (gb_Ri sh out) 0 0 sh g 68 [(0, .ref 77), (2, .int y2), (3, .int y3), (4, .int y4)] []) : ∀ (g : gb_G) (y2 : Int32) (y3 : Int32) (y4 : Int32) (z0 : Int32) (z1 : Int32) (z2 : Int32), f_X11_years_184 sh K68 g y2 y3 y4 z0 z1 z2 = some out → gb_J Γ M_X11_years 8 (gb_Ri sh out) 0 0 sh g 184 [(0, .ref 77), (2, .int y2), (3, .int y3), (4, .int y4)] [.int z0, .int z1, .int z2, .ref 79] := by
  intro g y2 y3 y4 z0 z1 z2 h
  unfold f_X11_years_184 at h
  refine gb_iadd d_X11_years_184 ?_
  refine gb_i2l d_X11_years_185 ?_
  refine gb_iconst 1 d_X11_years_186 rfl ?_
  refine gb_bipush 12 d_X11_years_187 rfl ?_
  obtain ⟨r30, e31, h⟩ := gb_bd_e h
  refine gb_cSi (As := [.long ((z1 + z0).toInt64), .int 1, .int 12]) (rest := [.int z2, .ref 79]) m_X11_403 (t_X11_within (Γ := Γ) hS e31) (Nat.le_of_ble_eq_true rfl) rfl rfl (Nat.le_of_ble_eq_true rfl) d_X11_years_189 ?_
  obtain ⟨hi32, h⟩ := gb_ck_e h
  refine gb_iast_ z2.toNatClampNeg rfl (hS 79 _ rfl) hi32 d_X11_years_192 ?_
  have h := gb_let_e h
  generalize gb_pi r30.1 79 z2.toNatClampNeg r30.2 = g33 at h ⊢
  refine gb_aload_n d_X11_years_193 rfl ?_
  obtain ⟨r34, e35, h⟩ := gb_bd_e h
  refine gb_cVv (As := []) (rest := []) m_X11_422 (t_X11_passIt (Γ := Γ) hS e35) (hS 77 _ rfl) rfl (Nat.le_of_ble_eq_true rfl) rfl rfl (Nat.le_of_ble_eq_true rfl) d_X11_years_194 ?_
  refine gb_aload_n d_X11_years_197 rfl ?_
  obtain ⟨r36, e37, h⟩ := gb_bd_e h
  refine gb_cVi (As := []) (rest := []) m_X11_455 (t_X11_pensionNow (Γ := Γ) hS e37) (hS 77 _ rfl) rfl (Nat.le_of_ble_eq_true rfl) rfl rfl (Nat.le_of_ble_eq_true rfl) d_X11_years_198 ?_
  refine gb_istore [(7, .int r36.2), (0, .ref 77), (2, .int y2), (3, .int y3), (4, .int y4)] d_X11_years_201 (Nat.le_of_ble_eq_true rfl) rfl ?_
  refine gb_iload d_X11_years_203 rfl ?_
  refine gb_iload_n d_X11_years_205 rfl ?_
  refine gb_icmp_le 214 d_X11_years_206 (by decide) (fun hc => ?_) (fun hc => ?_)
  · have h := gb_it hc h
    refine gb_iload_n d_X11_years_214 rfl ?_
    refine gb_pick (lv' := [(0, .ref 77), (2, .int y2), (4, .int y4)]) [1, 2, 4] rfl ?_
    exact t_X11_years_215 hS hK68 _ y2 y4 y3 h
  · have h := gb_if hc h
    refine gb_iload d_X11_years_209 rfl ?_
    refine gb_goto 215 d_X11_years_211 (by decide) ?_
    refine gb_pick (lv' := [(0, .ref 77), (2, .int y2), (4, .int y4)]) [1, 2, 4] rfl ?_
    exact t_X11_years_215 hS hK68 _ y2 y4 r36.2 h
set_option maxRecDepth 100000 in
set_option maxHeartbeats 4000000 in
theorem t_X11_years_143 {Γ : gb_X} {sh : List gb_Sh} {out : gb_G × Int32} (hS : gb_S sh) {K68 : gb_G → Int32 → Int32 → Int32 → Option (gb_G × Int32)} (hK68 : ∀ (g : gb_G) (y2 : Int32) (y3 : Int32) (y4 : Int32), K68 g y2 y3 y4 = some out → gb_J Γ M_X11_years 8 (gb_Ri sh out) 0 0 sh g 68 [(0, .ref 77), (2, .int y2), (3, .int y3), (4, .int y4)] []) : ∀ (g : gb_G) (y2 : Int32) (y3 : Int32) (y4 : Int32) (y5 : Int32) (y6 : Int32) (z0 : Int32) (z1 : Int32), f_X11_years_143 sh K68 g y2 y3 y4 y5 y6 z0 z1 = some out → gb_J Γ M_X11_years 8 (gb_Ri sh out) 0 0 sh g 143 [(0, .ref 77), (2, .int y2), (3, .int y3), (4, .int y4), (5, .int y5), (6, .int y6)] [.int z0, .int z1, .ref 79] := by
  intro g y2 y3 y4 y5 y6 z0 z1 h
  unfold f_X11_years_143 at h
  obtain ⟨hi27, h⟩ := gb_ck_e h
  refine gb_iast_ z1.toNatClampNeg rfl (hS 79 _ rfl) hi27 d_X11_years_143 ?_
  have h := gb_let_e h
  generalize gb_pi g 79 z1.toNatClampNeg z0 = g28 at h ⊢
  refine gb_aload_n d_X11_years_144 rfl ?_
  refine gb_getr (r := 79) f_X11_13 (hS 77 _ rfl) rfl d_X11_years_145 ?_
  refine gb_bipush 8 d_X11_years_148 rfl ?_
  refine gb_iload d_X11_years_150 rfl ?_
  refine gb_iadd d_X11_years_152 ?_
  refine gb_aload_n d_X11_years_153 rfl ?_
  refine gb_getr (r := 79) f_X11_13 (hS 77 _ rfl) rfl d_X11_years_154 ?_
  refine gb_bipush 8 d_X11_years_157 rfl ?_
  refine gb_iload d_X11_years_159 rfl ?_
  refine gb_iadd d_X11_years_161 ?_
  obtain ⟨hi29, h⟩ := gb_ck_e h
  refine gb_iald_ ((8 + y5).toNatClampNeg) rfl (hS 79 _ rfl) hi29 d_X11_years_162 ?_
  refine gb_iload d_X11_years_163 rfl ?_
  refine gb_iconst 2 d_X11_years_165 rfl ?_
  refine gb_icmp_ne 173 d_X11_years_166 (by decide) (fun hc => ?_) (fun hc => ?_)
  · have h := gb_if hc h
    refine gb_iload d_X11_years_173 rfl ?_
    refine gb_iconst 3 d_X11_years_175 rfl ?_
    refine gb_icmp_ne 183 d_X11_years_176 (by decide) (fun hc => ?_) (fun hc => ?_)
    · have h := gb_if hc h
      refine gb_iconst 0 d_X11_years_183 rfl ?_
      refine gb_pick (lv' := [(0, .ref 77), (2, .int y2), (3, .int y3), (4, .int y4)]) [0, 1, 2, 3] rfl ?_
      exact t_X11_years_184 hS hK68 _ y2 y3 y4 0 (g28.1 79 ((8 + y5).toNatClampNeg)) (8 + y5) h
    · have h := gb_it hc h
      refine gb_iconst (-1) d_X11_years_179 rfl ?_
      refine gb_goto 184 d_X11_years_180 (by decide) ?_
      refine gb_pick (lv' := [(0, .ref 77), (2, .int y2), (3, .int y3), (4, .int y4)]) [0, 1, 2, 3] rfl ?_
      exact t_X11_years_184 hS hK68 _ y2 y3 y4 (-1) (g28.1 79 ((8 + y5).toNatClampNeg)) (8 + y5) h
  · have h := gb_it hc h
    refine gb_iconst 1 d_X11_years_169 rfl ?_
    refine gb_goto 184 d_X11_years_170 (by decide) ?_
    refine gb_pick (lv' := [(0, .ref 77), (2, .int y2), (3, .int y3), (4, .int y4)]) [0, 1, 2, 3] rfl ?_
    exact t_X11_years_184 hS hK68 _ y2 y3 y4 1 (g28.1 79 ((8 + y5).toNatClampNeg)) (8 + y5) h
set_option maxRecDepth 100000 in
set_option maxHeartbeats 4000000 in
theorem t_X11_years_68 {Γ : gb_X} {sh : List gb_Sh} {out : gb_G × Int32} (hS : gb_S sh) : ∀ (n : Nat) (g : gb_G) (y2 : Int32) (y3 : Int32) (y4 : Int32), f_X11_years_68 sh n g y2 y3 y4 = some out → gb_J Γ M_X11_years 8 (gb_Ri sh out) 0 0 sh g 68 [(0, .ref 77), (2, .int y2), (3, .int y3), (4, .int y4)] [] := by
  intro n
  induction n with
  | zero => intro g y2 y3 y4 h; cases h
  | succ n ih =>
    intro g y2 y3 y4 h
    rw [f_X11_years_68] at h
    refine gb_iload d_X11_years_68 rfl ?_
    refine gb_iload_n d_X11_years_70 rfl ?_
    refine gb_icmp_ge 222 d_X11_years_71 (by decide) (fun hc => ?_) (fun hc => ?_)
    · have h := gb_it hc h
      refine gb_pick (lv' := [(0, .ref 77), (3, .int y3)]) [0, 2] rfl ?_
      exact t_X11_years_222 hS  _ y3 h
    · have h := gb_if hc h
      refine gb_aload_n d_X11_years_74 rfl ?_
      refine gb_getr (r := 79) f_X11_13 (hS 77 _ rfl) rfl d_X11_years_75 ?_
      refine gb_iconst 5 d_X11_years_78 rfl ?_
      refine gb_iald_ 5 rfl (hS 79 _ rfl) (by unfold vp_in; decide) d_X11_years_79 ?_
      refine gb_sipush 999 d_X11_years_80 rfl ?_
      refine gb_icmp_ge 222 d_X11_years_83 (by decide) (fun hc => ?_) (fun hc => ?_)
      · have h := gb_it hc h
        refine gb_pick (lv' := [(0, .ref 77), (3, .int y3)]) [0, 2] rfl ?_
        exact t_X11_years_222 hS  _ y3 h
      · have h := gb_if hc h
        refine gb_aload_n d_X11_years_86 rfl ?_
        refine gb_aload_n d_X11_years_87 rfl ?_
        refine gb_getr (r := 79) f_X11_13 (hS 77 _ rfl) rfl d_X11_years_88 ?_
        refine gb_iconst 0 d_X11_years_91 rfl ?_
        refine gb_iald_ 0 rfl (hS 79 _ rfl) (by unfold vp_in; decide) d_X11_years_92 ?_
        obtain ⟨r22, e23, h⟩ := gb_bd_e h
        refine gb_cVi (As := [.int (g.1 79 0)]) (rest := []) m_X11_536 (t_X11_draw (Γ := Γ) hS e23) (hS 77 _ rfl) rfl (Nat.le_of_ble_eq_true rfl) rfl rfl (Nat.le_of_ble_eq_true rfl) d_X11_years_93 ?_
        refine gb_istore [(5, .int r22.2), (0, .ref 77), (2, .int y2), (3, .int y3), (4, .int y4)] d_X11_years_96 (Nat.le_of_ble_eq_true rfl) rfl ?_
        refine gb_aload_n d_X11_years_98 rfl ?_
        refine gb_iconst 4 d_X11_years_99 rfl ?_
        obtain ⟨r24, e25, h⟩ := gb_bd_e h
        refine gb_cVi (As := [.int 4]) (rest := []) m_X11_536 (t_X11_draw (Γ := Γ) hS e25) (hS 77 _ rfl) rfl (Nat.le_of_ble_eq_true rfl) rfl rfl (Nat.le_of_ble_eq_true rfl) d_X11_years_100 ?_
        refine gb_istore [(6, .int r24.2), (5, .int r22.2), (0, .ref 77), (2, .int y2), (3, .int y3), (4, .int y4)] d_X11_years_103 (Nat.le_of_ble_eq_true rfl) rfl ?_
        refine gb_aload_n d_X11_years_105 rfl ?_
        refine gb_getr (r := 79) f_X11_13 (hS 77 _ rfl) rfl d_X11_years_106 ?_
        refine gb_bipush 16 d_X11_years_109 rfl ?_
        refine gb_iload d_X11_years_111 rfl ?_
        refine gb_iadd d_X11_years_113 ?_
        refine gb_iload d_X11_years_114 rfl ?_
        refine gb_if_ne 123 d_X11_years_116 (by decide) (fun hc => ?_) (fun hc => ?_)
        · have h := gb_if hc h
          refine gb_iload d_X11_years_123 rfl ?_
          refine gb_iconst 1 d_X11_years_125 rfl ?_
          refine gb_icmp_ne 133 d_X11_years_126 (by decide) (fun hc => ?_) (fun hc => ?_)
          · have h := gb_if hc h
            refine gb_aload_n d_X11_years_133 rfl ?_
            refine gb_getr (r := 79) f_X11_13 (hS 77 _ rfl) rfl d_X11_years_134 ?_
            refine gb_bipush 16 d_X11_years_137 rfl ?_
            refine gb_iload d_X11_years_139 rfl ?_
            refine gb_iadd d_X11_years_141 ?_
            obtain ⟨hi26, h⟩ := gb_ck_e h
            refine gb_iald_ ((16 + r22.2).toNatClampNeg) rfl (hS 79 _ rfl) hi26 d_X11_years_142 ?_
            refine gb_pick (lv' := [(0, .ref 77), (2, .int y2), (3, .int y3), (4, .int y4), (5, .int r22.2), (6, .int r24.2)]) [2, 3, 4, 5, 1, 0] rfl ?_
            exact t_X11_years_143 hS (fun w w0 w1 w2 hw => ih w w0 w1 w2 hw) _ y2 y3 y4 r22.2 r24.2 (r24.1.1 79 ((16 + r22.2).toNatClampNeg)) (16 + r22.2) h
          · have h := gb_it hc h
            refine gb_iconst 0 d_X11_years_129 rfl ?_
            refine gb_goto 143 d_X11_years_130 (by decide) ?_
            refine gb_pick (lv' := [(0, .ref 77), (2, .int y2), (3, .int y3), (4, .int y4), (5, .int r22.2), (6, .int r24.2)]) [2, 3, 4, 5, 1, 0] rfl ?_
            exact t_X11_years_143 hS (fun w w0 w1 w2 hw => ih w w0 w1 w2 hw) _ y2 y3 y4 r22.2 r24.2 0 (16 + r22.2) h
        · have h := gb_it hc h
          refine gb_iconst 1 d_X11_years_119 rfl ?_
          refine gb_goto 143 d_X11_years_120 (by decide) ?_
          refine gb_pick (lv' := [(0, .ref 77), (2, .int y2), (3, .int y3), (4, .int y4), (5, .int r22.2), (6, .int r24.2)]) [2, 3, 4, 5, 1, 0] rfl ?_
          exact t_X11_years_143 hS (fun w w0 w1 w2 hw => ih w w0 w1 w2 hw) _ y2 y3 y4 r22.2 r24.2 1 (16 + r22.2) h
set_option maxRecDepth 100000 in
set_option maxHeartbeats 4000000 in
theorem t_X11_years {Γ : gb_X} {sh : List gb_Sh} {x1 : Int32} {x2 : Int32} {out : gb_G × Int32} (hS : gb_S sh) {g : gb_G} (h : f_X11_years sh g x1 x2 = some out) : gb_C Γ M_X11_years 8 0 0 sh g [.ref 77, .int x1, .int x2] (gb_Ri sh out) := by
  refine gb_C.of rfl (Nat.le_of_ble_eq_true rfl) ?_
  refine gb_pick (lv' := [(0, .ref 77), (1, .int x1), (2, .int x2)]) [0, 1, 2] rfl ?_
  unfold f_X11_years at h
  refine gb_aload_n d_X11_years_0 rfl ?_
  refine gb_iconst 0 d_X11_years_1 rfl ?_
  refine gb_puti f_X11_145 (fun h => nomatch h) (hS 77 _ rfl) rfl rfl rfl d_X11_years_2 ?_
  have h := gb_let_e h
  generalize gb_pi g 77 0 0 = g1 at h ⊢
  refine gb_iload_n d_X11_years_5 rfl ?_
  refine gb_i2l d_X11_years_6 ?_
  refine gb_lconst 0 d_X11_years_7 rfl ?_
  refine gb_ldc2 1000000 k_X11_253 d_X11_years_8 ?_
  obtain ⟨r2, e3, h⟩ := gb_bd_e h
  refine gb_cSi (As := [.long x1.toInt64, .long 0, .long 1000000]) (rest := []) m_X11_165 (t_X11_in (Γ := Γ) hS e3) (Nat.le_of_ble_eq_true rfl) rfl rfl (Nat.le_of_ble_eq_true rfl) d_X11_years_11 ?_
  refine gb_if_eq 29 d_X11_years_14 (by decide) (fun hc => ?_) (fun hc => ?_)
  · have h := gb_it hc h
    refine gb_pick (lv' := [(0, .ref 77)]) [0] rfl ?_
    exact t_X11_years_29 hS  _  h
  · have h := gb_if hc h
    refine gb_iload_n d_X11_years_17 rfl ?_
    refine gb_i2l d_X11_years_18 ?_
    refine gb_lconst 1 d_X11_years_19 rfl ?_
    refine gb_ldc2 60 k_X11_492 d_X11_years_20 ?_
    obtain ⟨r6, e7, h⟩ := gb_bd_e h
    refine gb_cSi (As := [.long x2.toInt64, .long 1, .long 60]) (rest := []) m_X11_165 (t_X11_in (Γ := Γ) hS e7) (Nat.le_of_ble_eq_true rfl) rfl rfl (Nat.le_of_ble_eq_true rfl) d_X11_years_23 ?_
    refine gb_if_ne 35 d_X11_years_26 (by decide) (fun hc => ?_) (fun hc => ?_)
    · have h := gb_if hc h
      refine gb_aload_n d_X11_years_35 rfl ?_
      refine gb_getr (r := 79) f_X11_13 (hS 77 _ rfl) rfl d_X11_years_36 ?_
      refine gb_iconst 0 d_X11_years_39 rfl ?_
      refine gb_iald_ 0 rfl (hS 79 _ rfl) (by unfold vp_in; decide) d_X11_years_40 ?_
      refine gb_if_ne 51 d_X11_years_41 (by decide) (fun hc => ?_) (fun hc => ?_)
      · have h := gb_if hc h
        refine gb_aload_n d_X11_years_51 rfl ?_
        refine gb_bipush 16 d_X11_years_52 rfl ?_
        obtain ⟨r8, e9, h⟩ := gb_bd_e h
        refine gb_cVv (As := [.int 16]) (rest := []) m_X11_158 (t_X11_keepAll (Γ := Γ) hS e9) (hS 77 _ rfl) rfl (Nat.le_of_ble_eq_true rfl) rfl rfl (Nat.le_of_ble_eq_true rfl) d_X11_years_54 ?_
        refine gb_aload_n d_X11_years_57 rfl ?_
        refine gb_iload_n d_X11_years_58 rfl ?_
        refine gb_i2l d_X11_years_59 ?_
        refine gb_putl f_X11_527 (fun h => nomatch h) (hS 77 _ rfl) rfl rfl rfl d_X11_years_60 ?_
        have h := gb_let_e h
        generalize gb_pj r8 77 53 x1.toInt64 = g10 at h ⊢
        refine gb_iconst 0 d_X11_years_63 rfl ?_
        refine gb_istore_n [(3, .int 0), (0, .ref 77), (1, .int x1), (2, .int x2)] d_X11_years_64 (Nat.le_of_ble_eq_true rfl) rfl ?_
        refine gb_iconst 0 d_X11_years_65 rfl ?_
        refine gb_istore [(4, .int 0), (3, .int 0), (0, .ref 77), (1, .int x1), (2, .int x2)] d_X11_years_66 (Nat.le_of_ble_eq_true rfl) rfl ?_
        refine gb_pick (lv' := [(0, .ref 77), (2, .int x2), (3, .int 0), (4, .int 0)]) [2, 4, 1, 0] rfl ?_
        exact t_X11_years_68 hS  gb_N _ x2 0 0 h
      · have h := gb_it hc h
        refine gb_aload_n d_X11_years_44 rfl ?_
        refine gb_bipush (-3) d_X11_years_45 rfl ?_
        obtain ⟨r38, e39, h⟩ := gb_bd_e h
        refine gb_cVi (As := [.int (-3)]) (rest := []) m_X11_154 (t_X11_tell (Γ := Γ) hS e39) (hS 77 _ rfl) rfl (Nat.le_of_ble_eq_true rfl) rfl rfl (Nat.le_of_ble_eq_true rfl) d_X11_years_47 ?_
        cases h
        exact gb_iret d_X11_years_50 rfl ⟨rfl, rfl, rfl⟩
    · have h := gb_it hc h
      refine gb_pick (lv' := [(0, .ref 77)]) [0] rfl ?_
      exact t_X11_years_29 hS  _  h
-- X11_drawn
noncomputable def f_X11_drawn (sh : List gb_Sh) (g : gb_G) (x1 : Int32) (x2 : Int32) : Option (gb_G × Int32) := gb_let (gb_pi g 77 0 0) (fun g1 => gb_bd (f_X11_in sh g1 x1.toInt64 0 (((g1.1 77 55).toInt64) - 1)) (fun r2 => if r2.2 = 0 then (some (r2.1, (-1))) else (gb_bd (f_X11_in sh r2.1 x2.toInt64 0 1) (fun r4 => if r4.2 = 0 then (some (r4.1, (-1))) else (gb_ck ((8 * x2) + x1) 16 (some (r4.1, (r4.1.1 104 (((8 * x2) + x1).toNatClampNeg)))))))))
set_option maxRecDepth 100000 in
set_option maxHeartbeats 4000000 in
theorem t_X11_drawn {Γ : gb_X} {sh : List gb_Sh} {x1 : Int32} {x2 : Int32} {out : gb_G × Int32} (hS : gb_S sh) {g : gb_G} (h : f_X11_drawn sh g x1 x2 = some out) : gb_C Γ M_X11_drawn 1 0 0 sh g [.ref 77, .int x1, .int x2] (gb_Ri sh out) := by
  refine gb_C.of rfl (Nat.le_of_ble_eq_true rfl) ?_
  refine gb_pick (lv' := [(0, .ref 77), (1, .int x1), (2, .int x2)]) [0, 1, 2] rfl ?_
  unfold f_X11_drawn at h
  refine gb_aload_n d_X11_drawn_0 rfl ?_
  refine gb_iconst 0 d_X11_drawn_1 rfl ?_
  refine gb_puti f_X11_145 (fun h => nomatch h) (hS 77 _ rfl) rfl rfl rfl d_X11_drawn_2 ?_
  have h := gb_let_e h
  generalize gb_pi g 77 0 0 = g1 at h ⊢
  refine gb_iload_n d_X11_drawn_5 rfl ?_
  refine gb_i2l d_X11_drawn_6 ?_
  refine gb_lconst 0 d_X11_drawn_7 rfl ?_
  refine gb_aload_n d_X11_drawn_8 rfl ?_
  refine gb_geti f_X11_142 (hS 77 _ rfl) rfl d_X11_drawn_9 ?_
  refine gb_i2l d_X11_drawn_12 ?_
  refine gb_lconst 1 d_X11_drawn_13 rfl ?_
  refine gb_lsub d_X11_drawn_14 ?_
  obtain ⟨r2, e3, h⟩ := gb_bd_e h
  refine gb_cSi (As := [.long x1.toInt64, .long 0, .long (((g1.1 77 55).toInt64) - 1)]) (rest := []) m_X11_165 (t_X11_in (Γ := Γ) hS e3) (Nat.le_of_ble_eq_true rfl) rfl rfl (Nat.le_of_ble_eq_true rfl) d_X11_drawn_15 ?_
  refine gb_if_eq 45 d_X11_drawn_18 (by decide) (fun hc => ?_) (fun hc => ?_)
  · have h := gb_it hc h
    refine gb_iconst (-1) d_X11_drawn_45 rfl ?_
    cases h
    exact gb_iret d_X11_drawn_46 rfl ⟨rfl, rfl, rfl⟩
  · have h := gb_if hc h
    refine gb_iload_n d_X11_drawn_21 rfl ?_
    refine gb_i2l d_X11_drawn_22 ?_
    refine gb_lconst 0 d_X11_drawn_23 rfl ?_
    refine gb_lconst 1 d_X11_drawn_24 rfl ?_
    obtain ⟨r4, e5, h⟩ := gb_bd_e h
    refine gb_cSi (As := [.long x2.toInt64, .long 0, .long 1]) (rest := []) m_X11_165 (t_X11_in (Γ := Γ) hS e5) (Nat.le_of_ble_eq_true rfl) rfl rfl (Nat.le_of_ble_eq_true rfl) d_X11_drawn_25 ?_
    refine gb_if_eq 45 d_X11_drawn_28 (by decide) (fun hc => ?_) (fun hc => ?_)
    · have h := gb_it hc h
      refine gb_iconst (-1) d_X11_drawn_45 rfl ?_
      cases h
      exact gb_iret d_X11_drawn_46 rfl ⟨rfl, rfl, rfl⟩
    · have h := gb_if hc h
      refine gb_aload_n d_X11_drawn_31 rfl ?_
      refine gb_getr (r := 104) f_X11_139 (hS 77 _ rfl) rfl d_X11_drawn_32 ?_
      refine gb_bipush 8 d_X11_drawn_35 rfl ?_
      refine gb_iload_n d_X11_drawn_37 rfl ?_
      refine gb_imul d_X11_drawn_38 ?_
      refine gb_iload_n d_X11_drawn_39 rfl ?_
      refine gb_iadd d_X11_drawn_40 ?_
      obtain ⟨hi6, h⟩ := gb_ck_e h
      refine gb_iald_ (((8 * x2) + x1).toNatClampNeg) rfl (hS 104 _ rfl) hi6 d_X11_drawn_41 ?_
      refine gb_goto 46 d_X11_drawn_42 (by decide) ?_
      cases h
      exact gb_iret d_X11_drawn_46 rfl ⟨rfl, rfl, rfl⟩
-- X11_count
noncomputable def f_X11_count (sh : List gb_Sh) (g : gb_G) (x1 : Int32) : Option (gb_G × Int32) := gb_let (gb_pi g 77 0 0) (fun g1 => if x1 = 0 then (some (g1, (g1.1 79 0))) else if x1 = 1 then (gb_bd (f_X11_lackingOnes sh g1) (fun r4 => some (r4.1, r4.2))) else if x1 = 2 then (some (g1, (g1.1 79 1))) else if x1 = 3 then (some (g1, (g1.1 79 2))) else if x1 = 4 then (some (g1, (g1.1 79 3))) else if x1 = 5 then (some (g1, (g1.1 77 8))) else if x1 = 6 then (some (g1, (g1.1 77 13))) else if x1 = 7 then (some (g1, (g1.1 78 1))) else if x1 = 8 then (some (g1, (g1.1 78 2))) else if x1 = 9 then (some (g1, (g1.1 78 3))) else if x1 = 10 then (some (g1, (g1.1 78 5))) else if x1 = 11 then (some (g1, (g1.1 78 6))) else if x1 = 12 then (some (g1, (g1.1 79 4))) else (gb_bd (f_X11_in sh g1 x1.toInt64 13 15) (fun r17 => if r17.2 = 0 then (some (r17.1, (-1))) else (gb_ck ((5 + x1) - 13) 5520 (some (r17.1, (r17.1.1 79 (((5 + x1) - 13).toNatClampNeg))))))))
set_option maxRecDepth 100000 in
set_option maxHeartbeats 4000000 in
theorem t_X11_count {Γ : gb_X} {sh : List gb_Sh} {x1 : Int32} {out : gb_G × Int32} (hS : gb_S sh) {g : gb_G} (h : f_X11_count sh g x1 = some out) : gb_C Γ M_X11_count 1 0 0 sh g [.ref 77, .int x1] (gb_Ri sh out) := by
  refine gb_C.of rfl (Nat.le_of_ble_eq_true rfl) ?_
  refine gb_pick (lv' := [(0, .ref 77), (1, .int x1)]) [0, 1] rfl ?_
  unfold f_X11_count at h
  refine gb_aload_n d_X11_count_0 rfl ?_
  refine gb_iconst 0 d_X11_count_1 rfl ?_
  refine gb_puti f_X11_145 (fun h => nomatch h) (hS 77 _ rfl) rfl rfl rfl d_X11_count_2 ?_
  have h := gb_let_e h
  generalize gb_pi g 77 0 0 = g1 at h ⊢
  refine gb_iload_n d_X11_count_5 rfl ?_
  by_cases hc2 : x1 = 0
  · have h := gb_it hc2 h
    refine gb_tabI 72 hc2 d_X11_count_6 (by decide) (by decide) rfl (by decide) ?_
    refine gb_aload_n d_X11_count_72 rfl ?_
    refine gb_getr (r := 79) f_X11_13 (hS 77 _ rfl) rfl d_X11_count_73 ?_
    refine gb_iconst 0 d_X11_count_76 rfl ?_
    refine gb_iald_ 0 rfl (hS 79 _ rfl) (by unfold vp_in; decide) d_X11_count_77 ?_
    cases h
    exact gb_iret d_X11_count_78 rfl ⟨rfl, rfl, rfl⟩
  replace h := gb_if hc2 h
  by_cases hc3 : x1 = 1
  · have h := gb_it hc3 h
    refine gb_tabI 79 hc3 d_X11_count_6 (by decide) (by decide) rfl (by decide) ?_
    refine gb_aload_n d_X11_count_79 rfl ?_
    obtain ⟨r4, e5, h⟩ := gb_bd_e h
    refine gb_cVi (As := []) (rest := []) m_X11_410 (t_X11_lackingOnes (Γ := Γ) hS e5) (hS 77 _ rfl) rfl (Nat.le_of_ble_eq_true rfl) rfl rfl (Nat.le_of_ble_eq_true rfl) d_X11_count_80 ?_
    cases h
    exact gb_iret d_X11_count_83 rfl ⟨rfl, rfl, rfl⟩
  replace h := gb_if hc3 h
  by_cases hc6 : x1 = 2
  · have h := gb_it hc6 h
    refine gb_tabI 84 hc6 d_X11_count_6 (by decide) (by decide) rfl (by decide) ?_
    refine gb_aload_n d_X11_count_84 rfl ?_
    refine gb_getr (r := 79) f_X11_13 (hS 77 _ rfl) rfl d_X11_count_85 ?_
    refine gb_iconst 1 d_X11_count_88 rfl ?_
    refine gb_iald_ 1 rfl (hS 79 _ rfl) (by unfold vp_in; decide) d_X11_count_89 ?_
    cases h
    exact gb_iret d_X11_count_90 rfl ⟨rfl, rfl, rfl⟩
  replace h := gb_if hc6 h
  by_cases hc7 : x1 = 3
  · have h := gb_it hc7 h
    refine gb_tabI 91 hc7 d_X11_count_6 (by decide) (by decide) rfl (by decide) ?_
    refine gb_aload_n d_X11_count_91 rfl ?_
    refine gb_getr (r := 79) f_X11_13 (hS 77 _ rfl) rfl d_X11_count_92 ?_
    refine gb_iconst 2 d_X11_count_95 rfl ?_
    refine gb_iald_ 2 rfl (hS 79 _ rfl) (by unfold vp_in; decide) d_X11_count_96 ?_
    cases h
    exact gb_iret d_X11_count_97 rfl ⟨rfl, rfl, rfl⟩
  replace h := gb_if hc7 h
  by_cases hc8 : x1 = 4
  · have h := gb_it hc8 h
    refine gb_tabI 98 hc8 d_X11_count_6 (by decide) (by decide) rfl (by decide) ?_
    refine gb_aload_n d_X11_count_98 rfl ?_
    refine gb_getr (r := 79) f_X11_13 (hS 77 _ rfl) rfl d_X11_count_99 ?_
    refine gb_iconst 3 d_X11_count_102 rfl ?_
    refine gb_iald_ 3 rfl (hS 79 _ rfl) (by unfold vp_in; decide) d_X11_count_103 ?_
    cases h
    exact gb_iret d_X11_count_104 rfl ⟨rfl, rfl, rfl⟩
  replace h := gb_if hc8 h
  by_cases hc9 : x1 = 5
  · have h := gb_it hc9 h
    refine gb_tabI 105 hc9 d_X11_count_6 (by decide) (by decide) rfl (by decide) ?_
    refine gb_aload_n d_X11_count_105 rfl ?_
    refine gb_geti f_X11_151 (hS 77 _ rfl) rfl d_X11_count_106 ?_
    cases h
    exact gb_iret d_X11_count_109 rfl ⟨rfl, rfl, rfl⟩
  replace h := gb_if hc9 h
  by_cases hc10 : x1 = 6
  · have h := gb_it hc10 h
    refine gb_tabI 110 hc10 d_X11_count_6 (by decide) (by decide) rfl (by decide) ?_
    refine gb_aload_n d_X11_count_110 rfl ?_
    refine gb_geti f_X11_212 (hS 77 _ rfl) rfl d_X11_count_111 ?_
    cases h
    exact gb_iret d_X11_count_114 rfl ⟨rfl, rfl, rfl⟩
  replace h := gb_if hc10 h
  by_cases hc11 : x1 = 7
  · have h := gb_it hc11 h
    refine gb_tabI 115 hc11 d_X11_count_6 (by decide) (by decide) rfl (by decide) ?_
    refine gb_aload_n d_X11_count_115 rfl ?_
    refine gb_getr (r := 78) f_X11_7 (hS 77 _ rfl) rfl d_X11_count_116 ?_
    refine gb_iconst 1 d_X11_count_119 rfl ?_
    refine gb_iald_ 1 rfl (hS 78 _ rfl) (by unfold vp_in; decide) d_X11_count_120 ?_
    cases h
    exact gb_iret d_X11_count_121 rfl ⟨rfl, rfl, rfl⟩
  replace h := gb_if hc11 h
  by_cases hc12 : x1 = 8
  · have h := gb_it hc12 h
    refine gb_tabI 122 hc12 d_X11_count_6 (by decide) (by decide) rfl (by decide) ?_
    refine gb_aload_n d_X11_count_122 rfl ?_
    refine gb_getr (r := 78) f_X11_7 (hS 77 _ rfl) rfl d_X11_count_123 ?_
    refine gb_iconst 2 d_X11_count_126 rfl ?_
    refine gb_iald_ 2 rfl (hS 78 _ rfl) (by unfold vp_in; decide) d_X11_count_127 ?_
    cases h
    exact gb_iret d_X11_count_128 rfl ⟨rfl, rfl, rfl⟩
  replace h := gb_if hc12 h
  by_cases hc13 : x1 = 9
  · have h := gb_it hc13 h
    refine gb_tabI 129 hc13 d_X11_count_6 (by decide) (by decide) rfl (by decide) ?_
    refine gb_aload_n d_X11_count_129 rfl ?_
    refine gb_getr (r := 78) f_X11_7 (hS 77 _ rfl) rfl d_X11_count_130 ?_
    refine gb_iconst 3 d_X11_count_133 rfl ?_
    refine gb_iald_ 3 rfl (hS 78 _ rfl) (by unfold vp_in; decide) d_X11_count_134 ?_
    cases h
    exact gb_iret d_X11_count_135 rfl ⟨rfl, rfl, rfl⟩
  replace h := gb_if hc13 h
  by_cases hc14 : x1 = 10
  · have h := gb_it hc14 h
    refine gb_tabI 136 hc14 d_X11_count_6 (by decide) (by decide) rfl (by decide) ?_
    refine gb_aload_n d_X11_count_136 rfl ?_
    refine gb_getr (r := 78) f_X11_7 (hS 77 _ rfl) rfl d_X11_count_137 ?_
    refine gb_iconst 5 d_X11_count_140 rfl ?_
    refine gb_iald_ 5 rfl (hS 78 _ rfl) (by unfold vp_in; decide) d_X11_count_141 ?_
    cases h
    exact gb_iret d_X11_count_142 rfl ⟨rfl, rfl, rfl⟩
  replace h := gb_if hc14 h
  by_cases hc15 : x1 = 11
  · have h := gb_it hc15 h
    refine gb_tabI 143 hc15 d_X11_count_6 (by decide) (by decide) rfl (by decide) ?_
    refine gb_aload_n d_X11_count_143 rfl ?_
    refine gb_getr (r := 78) f_X11_7 (hS 77 _ rfl) rfl d_X11_count_144 ?_
    refine gb_bipush 6 d_X11_count_147 rfl ?_
    refine gb_iald_ 6 rfl (hS 78 _ rfl) (by unfold vp_in; decide) d_X11_count_149 ?_
    cases h
    exact gb_iret d_X11_count_150 rfl ⟨rfl, rfl, rfl⟩
  replace h := gb_if hc15 h
  by_cases hc16 : x1 = 12
  · have h := gb_it hc16 h
    refine gb_tabI 151 hc16 d_X11_count_6 (by decide) (by decide) rfl (by decide) ?_
    refine gb_aload_n d_X11_count_151 rfl ?_
    refine gb_getr (r := 79) f_X11_13 (hS 77 _ rfl) rfl d_X11_count_152 ?_
    refine gb_iconst 4 d_X11_count_155 rfl ?_
    refine gb_iald_ 4 rfl (hS 79 _ rfl) (by unfold vp_in; decide) d_X11_count_156 ?_
    cases h
    exact gb_iret d_X11_count_157 rfl ⟨rfl, rfl, rfl⟩
  replace h := gb_if hc16 h
  refine gb_tabO 158 d_X11_count_6 (gb_out 13 (by decide) (by decide) (by decide) (fun i hi => match i, hi with | 0, _ => hc2 | 1, _ => hc3 | 2, _ => hc6 | 3, _ => hc7 | 4, _ => hc8 | 5, _ => hc9 | 6, _ => hc10 | 7, _ => hc11 | 8, _ => hc12 | 9, _ => hc13 | 10, _ => hc14 | 11, _ => hc15 | 12, _ => hc16 | q + 13, h9 => absurd h9 (Nat.not_lt.mpr (Nat.le_add_left _ _)))) (by decide) ?_
  refine gb_iload_n d_X11_count_158 rfl ?_
  refine gb_i2l d_X11_count_159 ?_
  refine gb_ldc2 13 k_X11_539 d_X11_count_160 ?_
  refine gb_ldc2 15 k_X11_541 d_X11_count_163 ?_
  obtain ⟨r17, e18, h⟩ := gb_bd_e h
  refine gb_cSi (As := [.long x1.toInt64, .long 13, .long 15]) (rest := []) m_X11_165 (t_X11_in (Γ := Γ) hS e18) (Nat.le_of_ble_eq_true rfl) rfl rfl (Nat.le_of_ble_eq_true rfl) d_X11_count_166 ?_
  refine gb_if_eq 186 d_X11_count_169 (by decide) (fun hc => ?_) (fun hc => ?_)
  · have h := gb_it hc h
    refine gb_iconst (-1) d_X11_count_186 rfl ?_
    cases h
    exact gb_iret d_X11_count_187 rfl ⟨rfl, rfl, rfl⟩
  · have h := gb_if hc h
    refine gb_aload_n d_X11_count_172 rfl ?_
    refine gb_getr (r := 79) f_X11_13 (hS 77 _ rfl) rfl d_X11_count_173 ?_
    refine gb_iconst 5 d_X11_count_176 rfl ?_
    refine gb_iload_n d_X11_count_177 rfl ?_
    refine gb_iadd d_X11_count_178 ?_
    refine gb_bipush 13 d_X11_count_179 rfl ?_
    refine gb_isub d_X11_count_181 ?_
    obtain ⟨hi19, h⟩ := gb_ck_e h
    refine gb_iald_ (((5 + x1) - 13).toNatClampNeg) rfl (hS 79 _ rfl) hi19 d_X11_count_182 ?_
    refine gb_goto 187 d_X11_count_183 (by decide) ?_
    cases h
    exact gb_iret d_X11_count_187 rfl ⟨rfl, rfl, rfl⟩
-- X11_status
noncomputable def f_X11_status (sh : List gb_Sh) (g : gb_G) : Option (gb_G × Int32) := gb_let (gb_pi g 77 0 0) (fun g1 => some (g1, (g1.1 77 1)))
set_option maxRecDepth 100000 in
set_option maxHeartbeats 4000000 in
theorem t_X11_status {Γ : gb_X} {sh : List gb_Sh} {out : gb_G × Int32} (hS : gb_S sh) {g : gb_G} (h : f_X11_status sh g = some out) : gb_C Γ M_X11_status 0 0 0 sh g [.ref 77] (gb_Ri sh out) := by
  refine gb_C.of rfl (Nat.le_of_ble_eq_true rfl) ?_
  refine gb_pick (lv' := [(0, .ref 77)]) [0] rfl ?_
  unfold f_X11_status at h
  refine gb_aload_n d_X11_status_0 rfl ?_
  refine gb_iconst 0 d_X11_status_1 rfl ?_
  refine gb_puti f_X11_145 (fun h => nomatch h) (hS 77 _ rfl) rfl rfl rfl d_X11_status_2 ?_
  have h := gb_let_e h
  generalize gb_pi g 77 0 0 = g1 at h ⊢
  refine gb_aload_n d_X11_status_5 rfl ?_
  refine gb_geti f_X11_148 (hS 77 _ rfl) rfl d_X11_status_6 ?_
  cases h
  exact gb_iret d_X11_status_9 rfl ⟨rfl, rfl, rfl⟩
