-- X11_reckonAll
noncomputable def f_X11_reckonAll_368 (sh : List gb_Sh) (g : gb_G) (z0 : Int64) : Option (gb_G) := gb_let (gb_pj g 77 39 z0) (fun g2 => some g2)
noncomputable def f_X11_reckonAll_353 (sh : List gb_Sh) (g : gb_G) (y3 : Int32) : Option (gb_G) := if y3 ≤ 0 then (f_X11_reckonAll_368 sh g 0) else (f_X11_reckonAll_368 sh g (g.2.1 97 0))
noncomputable def f_X11_reckonAll_336 (sh : List gb_Sh) (K350 : gb_G → Int32 → Int32 → Int32 → Option (gb_G)) (g : gb_G) (y2 : Int32) (y3 : Int32) (y4 : Int32) (y6 : Int32) (z0 : Int64) (z1 : Int64) : Option (gb_G) := if (lg_cmp z1 z0) = 0 then (K350 g y2 y3 y6) else (K350 g y2 (y3 + (-1)) y4)
noncomputable def f_X11_reckonAll_350 (sh : List gb_Sh) (K10 : gb_G → Int32 → Int32 → Int32 → Option (gb_G)) (g : gb_G) (y2 : Int32) (y3 : Int32) (y4 : Int32) : Option (gb_G) := K10 g y2 y3 y4
noncomputable def f_X11_reckonAll_282 (sh : List gb_Sh) (K350 : gb_G → Int32 → Int32 → Int32 → Option (gb_G)) (g : gb_G) (y2 : Int32) (y3 : Int32) (y4 : Int32) (z0 : Int32) : Option (gb_G) := gb_bo z0 (gb_let (gb_pi g 77 38 z0) (fun g15 => K350 g15 y2 y3 y4))
noncomputable def f_X11_reckonAll_204 (sh : List gb_Sh) (K350 : gb_G → Int32 → Int32 → Int32 → Option (gb_G)) (g : gb_G) (y2 : Int32) (y3 : Int32) (y4 : Int32) (z0 : Int64) (z1 : Int32) : Option (gb_G) := gb_ck z1 400 (gb_let (gb_pj g 97 z1.toNatClampNeg z0) (fun g24 => K350 g24 y2 (y3 + 1) y4))
noncomputable def f_X11_reckonAll_95 (sh : List gb_Sh) (K10 : gb_G → Int32 → Int32 → Int32 → Option (gb_G)) (g : gb_G) (y2 : Int32) (y3 : Int32) (y4 : Int32) (y5 : Int32) (z0 : Int32) : Option (gb_G) := if 20 ≤ y5 then (if 28 ≤ y5 then (if y5 = 28 then (gb_ck (y3 - 1) 400 (gb_ck (y3 - 1) 400 (gb_let (gb_pj g 97 ((y3 - 1).toNatClampNeg) (1 - (g.2.1 97 ((y3 - 1).toNatClampNeg)))) (fun g8 => f_X11_reckonAll_350 sh K10 g8 y2 y3 (y4 + 1))))) else (gb_ck (y3 - 1) 400 (if y5 = 29 then (f_X11_reckonAll_336 sh (fun w w0 w1 w2 => f_X11_reckonAll_350 sh K10 w w0 w1 w2) g y2 y3 (y4 + 1) z0 0 (g.2.1 97 ((y3 - 1).toNatClampNeg))) else (f_X11_reckonAll_336 sh (fun w w0 w1 w2 => f_X11_reckonAll_350 sh K10 w w0 w1 w2) g y2 y3 (y4 + 1) z0 1 (g.2.1 97 ((y3 - 1).toNatClampNeg)))))) else (gb_ck ((y3 + (-1)) - 1) 400 (gb_ck (y3 + (-1)) 400 (gb_bd (f_X11_reckon sh g y5 (g.2.1 97 (((y3 + (-1)) - 1).toNatClampNeg)) (g.2.1 97 ((y3 + (-1)).toNatClampNeg))) (fun r11 => gb_ck ((y3 + (-1)) - 1) 400 (gb_let (gb_pj r11.1 97 (((y3 + (-1)) - 1).toNatClampNeg) r11.2) (fun g14 => if (g14.1 77 38) = 0 then (gb_ck ((y3 + (-1)) - 1) 400 (gb_bd (f_X11_in sh g14 (g14.2.1 97 (((y3 + (-1)) - 1).toNatClampNeg)) (-1000000000) 1000000000) (fun r18 => if r18.2 = 0 then (f_X11_reckonAll_282 sh (fun w w0 w1 w2 => f_X11_reckonAll_350 sh K10 w w0 w1 w2) r18.1 y2 (y3 + (-1)) (y4 + 1) 1) else (f_X11_reckonAll_282 sh (fun w w0 w1 w2 => f_X11_reckonAll_350 sh K10 w w0 w1 w2) r18.1 y2 (y3 + (-1)) (y4 + 1) 0)))) else (f_X11_reckonAll_282 sh (fun w w0 w1 w2 => f_X11_reckonAll_350 sh K10 w w0 w1 w2) g14 y2 (y3 + (-1)) (y4 + 1) 1)))))))) else (if y5 = 0 then (f_X11_reckonAll_204 sh (fun w w0 w1 w2 => f_X11_reckonAll_350 sh K10 w w0 w1 w2) g y2 y3 (y4 + 1) z0.toInt64 y3) else (if (g.1 77 20) = 0 then (gb_ck y5 13 (f_X11_reckonAll_204 sh (fun w w0 w1 w2 => f_X11_reckonAll_350 sh K10 w w0 w1 w2) g y2 y3 (y4 + 1) (g.2.1 95 y5.toNatClampNeg) y3)) else (if 6 ≤ y5 then (gb_bd (f_X11_isGood sh g z0) (fun r20 => if r20.2 = 0 then (f_X11_reckonAll_204 sh (fun w w0 w1 w2 => f_X11_reckonAll_350 sh K10 w w0 w1 w2) r20.1 y2 y3 (y4 + 1) (-1) y3) else (if y5 = 6 then (gb_ck (8 + z0) 5520 (f_X11_reckonAll_204 sh (fun w w0 w1 w2 => f_X11_reckonAll_350 sh K10 w w0 w1 w2) r20.1 y2 y3 (y4 + 1) ((r20.1.1 79 ((8 + z0).toNatClampNeg)).toInt64) y3)) else (gb_ck (24 + z0) 5520 (f_X11_reckonAll_204 sh (fun w w0 w1 w2 => f_X11_reckonAll_350 sh K10 w w0 w1 w2) r20.1 y2 y3 (y4 + 1) ((r20.1.1 79 ((24 + z0).toNatClampNeg)).toInt64) y3))))) else (gb_ck y5 13 (f_X11_reckonAll_204 sh (fun w w0 w1 w2 => f_X11_reckonAll_350 sh K10 w w0 w1 w2) g y2 y3 (y4 + 1) (g.2.1 96 y5.toNatClampNeg) y3)))))
noncomputable def f_X11_reckonAll_57 (sh : List gb_Sh) (K10 : gb_G → Int32 → Int32 → Int32 → Option (gb_G)) (g : gb_G) (y2 : Int32) (y3 : Int32) (y4 : Int32) (z0 : Int32) : Option (gb_G) := if (g.1 77 20) = 0 then (gb_ck ((((g.1 77 34) + 98) + (2 * y4)) + 1) 5520 (f_X11_reckonAll_95 sh K10 g y2 y3 y4 z0 (g.1 79 (((((g.1 77 34) + 98) + (2 * y4)) + 1).toNatClampNeg)))) else (gb_ck y4 400 (f_X11_reckonAll_95 sh K10 g y2 y3 y4 z0 (g.1 89 y4.toNatClampNeg)))
noncomputable def f_X11_reckonAll_10 (sh : List gb_Sh) : Nat → gb_G → Int32 → Int32 → Int32 → Option (gb_G)
  | 0, _, _, _, _ => none
  | n + 1, g, y2, y3, y4 => if y2 ≤ y4 then (f_X11_reckonAll_353 sh g y3) else (if (g.1 77 38) = 0 then (if (g.1 77 20) = 0 then (gb_ck (((g.1 77 34) + 98) + (2 * y4)) 5520 (f_X11_reckonAll_57 sh (fun w w0 w1 w2 => f_X11_reckonAll_10 sh n w w0 w1 w2) g y2 y3 y4 (g.1 79 ((((g.1 77 34) + 98) + (2 * y4)).toNatClampNeg)))) else (gb_ck y4 400 (f_X11_reckonAll_57 sh (fun w w0 w1 w2 => f_X11_reckonAll_10 sh n w w0 w1 w2) g y2 y3 y4 (g.1 88 y4.toNatClampNeg)))) else (f_X11_reckonAll_353 sh g y3))
noncomputable def f_X11_reckonAll (sh : List gb_Sh) (g : gb_G) (x1 : Int32) (x2 : Int32) : Option (gb_G) := gb_let (gb_pi g 77 38 0) (fun g1 => f_X11_reckonAll_10 sh gb_N g1 x2 0 x1)
set_option maxRecDepth 100000 in
set_option maxHeartbeats 4000000 in
theorem t_X11_reckonAll_368 {Γ : gb_X} {sh : List gb_Sh} {out : gb_G} (hS : gb_S sh) : ∀ (g : gb_G) (z0 : Int64), f_X11_reckonAll_368 sh g z0 = some out → gb_J Γ M_X11_reckonAll 2 (gb_Rv sh out) 0 0 sh g 368 [] [.long z0, .ref 77] := by
  intro g z0 h
  unfold f_X11_reckonAll_368 at h
  refine gb_putl f_X11_387 (fun h => nomatch h) (hS 77 _ rfl) rfl rfl rfl d_X11_reckonAll_368 ?_
  have h := gb_let_e h
  generalize gb_pj g 77 39 z0 = g2 at h ⊢
  cases h
  exact gb_vret d_X11_reckonAll_371 rfl ⟨rfl, rfl, rfl⟩
set_option maxRecDepth 100000 in
set_option maxHeartbeats 4000000 in
theorem t_X11_reckonAll_353 {Γ : gb_X} {sh : List gb_Sh} {out : gb_G} (hS : gb_S sh) : ∀ (g : gb_G) (y3 : Int32), f_X11_reckonAll_353 sh g y3 = some out → gb_J Γ M_X11_reckonAll 2 (gb_Rv sh out) 0 0 sh g 353 [(0, .ref 77), (3, .int y3)] [] := by
  intro g y3 h
  unfold f_X11_reckonAll_353 at h
  refine gb_aload_n d_X11_reckonAll_353 rfl ?_
  refine gb_iload_n d_X11_reckonAll_354 rfl ?_
  refine gb_if_le 367 d_X11_reckonAll_355 (by decide) (fun hc => ?_) (fun hc => ?_)
  · have h := gb_it hc h
    refine gb_lconst 0 d_X11_reckonAll_367 rfl ?_
    refine gb_pick (lv' := []) [] rfl ?_
    exact t_X11_reckonAll_368 hS  _ 0 h
  · have h := gb_if hc h
    refine gb_aload_n d_X11_reckonAll_358 rfl ?_
    refine gb_getr (r := 97) f_X11_107 (hS 77 _ rfl) rfl d_X11_reckonAll_359 ?_
    refine gb_iconst 0 d_X11_reckonAll_362 rfl ?_
    refine gb_lald_ 0 rfl (hS 97 _ rfl) (by unfold vp_in; decide) d_X11_reckonAll_363 ?_
    refine gb_goto 368 d_X11_reckonAll_364 (by decide) ?_
    refine gb_pick (lv' := []) [] rfl ?_
    exact t_X11_reckonAll_368 hS  _ (g.2.1 97 0) h
set_option maxRecDepth 100000 in
set_option maxHeartbeats 4000000 in
theorem t_X11_reckonAll_336 {Γ : gb_X} {sh : List gb_Sh} {out : gb_G} (hS : gb_S sh) {K350 : gb_G → Int32 → Int32 → Int32 → Option (gb_G)} (hK350 : ∀ (g : gb_G) (y2 : Int32) (y3 : Int32) (y4 : Int32), K350 g y2 y3 y4 = some out → gb_J Γ M_X11_reckonAll 2 (gb_Rv sh out) 0 0 sh g 350 [(0, .ref 77), (2, .int y2), (3, .int y3), (4, .int y4)] []) : ∀ (g : gb_G) (y2 : Int32) (y3 : Int32) (y4 : Int32) (y6 : Int32) (z0 : Int64) (z1 : Int64), f_X11_reckonAll_336 sh K350 g y2 y3 y4 y6 z0 z1 = some out → gb_J Γ M_X11_reckonAll 2 (gb_Rv sh out) 0 0 sh g 336 [(0, .ref 77), (2, .int y2), (3, .int y3), (4, .int y4), (6, .int y6)] [.long z0, .long z1] := by
  intro g y2 y3 y4 y6 z0 z1 h
  unfold f_X11_reckonAll_336 at h
  refine gb_lcmp d_X11_reckonAll_336 ?_
  refine gb_if_ne 347 d_X11_reckonAll_337 (by decide) (fun hc => ?_) (fun hc => ?_)
  · have h := gb_if hc h
    refine gb_iinc (y3 + (-1)) [(3, .int (y3 + (-1))), (0, .ref 77), (2, .int y2), (4, .int y4), (6, .int y6)] d_X11_reckonAll_347 (Nat.le_of_ble_eq_true rfl) rfl rfl rfl ?_
    refine gb_pick (lv' := [(0, .ref 77), (2, .int y2), (3, .int (y3 + (-1))), (4, .int y4)]) [1, 2, 0, 3] rfl ?_
    exact hK350 _ y2 (y3 + (-1)) y4 h
  · have h := gb_it hc h
    refine gb_iload d_X11_reckonAll_340 rfl ?_
    refine gb_istore [(4, .int y6), (0, .ref 77), (2, .int y2), (3, .int y3), (6, .int y6)] d_X11_reckonAll_342 (Nat.le_of_ble_eq_true rfl) rfl ?_
    refine gb_goto 350 d_X11_reckonAll_344 (by decide) ?_
    refine gb_pick (lv' := [(0, .ref 77), (2, .int y2), (3, .int y3), (4, .int y6)]) [1, 2, 3, 0] rfl ?_
    exact hK350 _ y2 y3 y6 h
set_option maxRecDepth 100000 in
set_option maxHeartbeats 4000000 in
theorem t_X11_reckonAll_350 {Γ : gb_X} {sh : List gb_Sh} {out : gb_G} (hS : gb_S sh) {K10 : gb_G → Int32 → Int32 → Int32 → Option (gb_G)} (hK10 : ∀ (g : gb_G) (y2 : Int32) (y3 : Int32) (y4 : Int32), K10 g y2 y3 y4 = some out → gb_J Γ M_X11_reckonAll 2 (gb_Rv sh out) 0 0 sh g 10 [(0, .ref 77), (2, .int y2), (3, .int y3), (4, .int y4)] []) : ∀ (g : gb_G) (y2 : Int32) (y3 : Int32) (y4 : Int32), f_X11_reckonAll_350 sh K10 g y2 y3 y4 = some out → gb_J Γ M_X11_reckonAll 2 (gb_Rv sh out) 0 0 sh g 350 [(0, .ref 77), (2, .int y2), (3, .int y3), (4, .int y4)] [] := by
  intro g y2 y3 y4 h
  unfold f_X11_reckonAll_350 at h
  refine gb_goto 10 d_X11_reckonAll_350 (by decide) ?_
  exact hK10 _ y2 y3 y4 h
set_option maxRecDepth 100000 in
set_option maxHeartbeats 4000000 in
theorem t_X11_reckonAll_282 {Γ : gb_X} {sh : List gb_Sh} {out : gb_G} (hS : gb_S sh) {K350 : gb_G → Int32 → Int32 → Int32 → Option (gb_G)} (hK350 : ∀ (g : gb_G) (y2 : Int32) (y3 : Int32) (y4 : Int32), K350 g y2 y3 y4 = some out → gb_J Γ M_X11_reckonAll 2 (gb_Rv sh out) 0 0 sh g 350 [(0, .ref 77), (2, .int y2), (3, .int y3), (4, .int y4)] []) : ∀ (g : gb_G) (y2 : Int32) (y3 : Int32) (y4 : Int32) (z0 : Int32), f_X11_reckonAll_282 sh K350 g y2 y3 y4 z0 = some out → gb_J Γ M_X11_reckonAll 2 (gb_Rv sh out) 0 0 sh g 282 [(0, .ref 77), (2, .int y2), (3, .int y3), (4, .int y4)] [.int z0, .ref 77] := by
  intro g y2 y3 y4 z0 h
  unfold f_X11_reckonAll_282 at h
  obtain ⟨hb16, hb16f, h⟩ := gb_bo_e2 h
  refine gb_puti f_X11_373 (fun h => nomatch h) (hS 77 _ rfl) rfl hb16 hb16f d_X11_reckonAll_282 ?_
  have h := gb_let_e h
  generalize gb_pi g 77 38 z0 = g15 at h ⊢
  refine gb_goto 350 d_X11_reckonAll_285 (by decide) ?_
  exact hK350 _ y2 y3 y4 h
set_option maxRecDepth 100000 in
set_option maxHeartbeats 4000000 in
theorem t_X11_reckonAll_204 {Γ : gb_X} {sh : List gb_Sh} {out : gb_G} (hS : gb_S sh) {K350 : gb_G → Int32 → Int32 → Int32 → Option (gb_G)} (hK350 : ∀ (g : gb_G) (y2 : Int32) (y3 : Int32) (y4 : Int32), K350 g y2 y3 y4 = some out → gb_J Γ M_X11_reckonAll 2 (gb_Rv sh out) 0 0 sh g 350 [(0, .ref 77), (2, .int y2), (3, .int y3), (4, .int y4)] []) : ∀ (g : gb_G) (y2 : Int32) (y3 : Int32) (y4 : Int32) (z0 : Int64) (z1 : Int32), f_X11_reckonAll_204 sh K350 g y2 y3 y4 z0 z1 = some out → gb_J Γ M_X11_reckonAll 2 (gb_Rv sh out) 0 0 sh g 204 [(0, .ref 77), (2, .int y2), (3, .int y3), (4, .int y4)] [.long z0, .int z1, .ref 97] := by
  intro g y2 y3 y4 z0 z1 h
  unfold f_X11_reckonAll_204 at h
  obtain ⟨hi23, h⟩ := gb_ck_e h
  refine gb_last_ z1.toNatClampNeg rfl (hS 97 _ rfl) hi23 d_X11_reckonAll_204 ?_
  have h := gb_let_e h
  generalize gb_pj g 97 z1.toNatClampNeg z0 = g24 at h ⊢
  refine gb_iinc (y3 + 1) [(3, .int (y3 + 1)), (0, .ref 77), (2, .int y2), (4, .int y4)] d_X11_reckonAll_205 (Nat.le_of_ble_eq_true rfl) rfl rfl rfl ?_
  refine gb_goto 350 d_X11_reckonAll_208 (by decide) ?_
  refine gb_pick (lv' := [(0, .ref 77), (2, .int y2), (3, .int (y3 + 1)), (4, .int y4)]) [1, 2, 0, 3] rfl ?_
  exact hK350 _ y2 (y3 + 1) y4 h
set_option maxRecDepth 100000 in
set_option maxHeartbeats 4000000 in
theorem t_X11_reckonAll_95 {Γ : gb_X} {sh : List gb_Sh} {out : gb_G} (hS : gb_S sh) {K10 : gb_G → Int32 → Int32 → Int32 → Option (gb_G)} (hK10 : ∀ (g : gb_G) (y2 : Int32) (y3 : Int32) (y4 : Int32), K10 g y2 y3 y4 = some out → gb_J Γ M_X11_reckonAll 2 (gb_Rv sh out) 0 0 sh g 10 [(0, .ref 77), (2, .int y2), (3, .int y3), (4, .int y4)] []) : ∀ (g : gb_G) (y2 : Int32) (y3 : Int32) (y4 : Int32) (y5 : Int32) (z0 : Int32), f_X11_reckonAll_95 sh K10 g y2 y3 y4 y5 z0 = some out → gb_J Γ M_X11_reckonAll 2 (gb_Rv sh out) 0 0 sh g 95 [(0, .ref 77), (2, .int y2), (3, .int y3), (4, .int y4), (5, .int y5)] [.int z0] := by
  intro g y2 y3 y4 y5 z0 h
  unfold f_X11_reckonAll_95 at h
  refine gb_istore [(6, .int z0), (0, .ref 77), (2, .int y2), (3, .int y3), (4, .int y4), (5, .int y5)] d_X11_reckonAll_95 (Nat.le_of_ble_eq_true rfl) rfl ?_
  refine gb_iinc (y4 + 1) [(4, .int (y4 + 1)), (6, .int z0), (0, .ref 77), (2, .int y2), (3, .int y3), (5, .int y5)] d_X11_reckonAll_97 (Nat.le_of_ble_eq_true rfl) rfl rfl rfl ?_
  refine gb_iload d_X11_reckonAll_100 rfl ?_
  refine gb_bipush 20 d_X11_reckonAll_102 rfl ?_
  refine gb_icmp_ge 211 d_X11_reckonAll_104 (by decide) (fun hc => ?_) (fun hc => ?_)
  · have h := gb_it hc h
    refine gb_iload d_X11_reckonAll_211 rfl ?_
    refine gb_bipush 28 d_X11_reckonAll_213 rfl ?_
    refine gb_icmp_ge 288 d_X11_reckonAll_215 (by decide) (fun hc => ?_) (fun hc => ?_)
    · have h := gb_it hc h
      refine gb_iload d_X11_reckonAll_288 rfl ?_
      refine gb_bipush 28 d_X11_reckonAll_290 rfl ?_
      refine gb_icmp_ne 316 d_X11_reckonAll_292 (by decide) (fun hc => ?_) (fun hc => ?_)
      · have h := gb_if hc h
        refine gb_aload_n d_X11_reckonAll_316 rfl ?_
        refine gb_getr (r := 97) f_X11_107 (hS 77 _ rfl) rfl d_X11_reckonAll_317 ?_
        refine gb_iload_n d_X11_reckonAll_320 rfl ?_
        refine gb_iconst 1 d_X11_reckonAll_321 rfl ?_
        refine gb_isub d_X11_reckonAll_322 ?_
        obtain ⟨hi5, h⟩ := gb_ck_e h
        refine gb_lald_ ((y3 - 1).toNatClampNeg) rfl (hS 97 _ rfl) hi5 d_X11_reckonAll_323 ?_
        refine gb_iload d_X11_reckonAll_324 rfl ?_
        refine gb_bipush 29 d_X11_reckonAll_326 rfl ?_
        refine gb_icmp_ne 335 d_X11_reckonAll_328 (by decide) (fun hc => ?_) (fun hc => ?_)
        · have h := gb_if hc h
          refine gb_lconst 1 d_X11_reckonAll_335 rfl ?_
          refine gb_pick (lv' := [(0, .ref 77), (2, .int y2), (3, .int y3), (4, .int (y4 + 1)), (6, .int z0)]) [2, 3, 4, 0, 1] rfl ?_
          exact t_X11_reckonAll_336 hS (fun w w0 w1 w2 hw => t_X11_reckonAll_350 hS hK10 w w0 w1 w2 hw) _ y2 y3 (y4 + 1) z0 1 (g.2.1 97 ((y3 - 1).toNatClampNeg)) h
        · have h := gb_it hc h
          refine gb_lconst 0 d_X11_reckonAll_331 rfl ?_
          refine gb_goto 336 d_X11_reckonAll_332 (by decide) ?_
          refine gb_pick (lv' := [(0, .ref 77), (2, .int y2), (3, .int y3), (4, .int (y4 + 1)), (6, .int z0)]) [2, 3, 4, 0, 1] rfl ?_
          exact t_X11_reckonAll_336 hS (fun w w0 w1 w2 hw => t_X11_reckonAll_350 hS hK10 w w0 w1 w2 hw) _ y2 y3 (y4 + 1) z0 0 (g.2.1 97 ((y3 - 1).toNatClampNeg)) h
      · have h := gb_it hc h
        refine gb_aload_n d_X11_reckonAll_295 rfl ?_
        refine gb_getr (r := 97) f_X11_107 (hS 77 _ rfl) rfl d_X11_reckonAll_296 ?_
        refine gb_iload_n d_X11_reckonAll_299 rfl ?_
        refine gb_iconst 1 d_X11_reckonAll_300 rfl ?_
        refine gb_isub d_X11_reckonAll_301 ?_
        refine gb_lconst 1 d_X11_reckonAll_302 rfl ?_
        refine gb_aload_n d_X11_reckonAll_303 rfl ?_
        refine gb_getr (r := 97) f_X11_107 (hS 77 _ rfl) rfl d_X11_reckonAll_304 ?_
        refine gb_iload_n d_X11_reckonAll_307 rfl ?_
        refine gb_iconst 1 d_X11_reckonAll_308 rfl ?_
        refine gb_isub d_X11_reckonAll_309 ?_
        obtain ⟨hi6, h⟩ := gb_ck_e h
        refine gb_lald_ ((y3 - 1).toNatClampNeg) rfl (hS 97 _ rfl) hi6 d_X11_reckonAll_310 ?_
        refine gb_lsub d_X11_reckonAll_311 ?_
        obtain ⟨hi7, h⟩ := gb_ck_e h
        refine gb_last_ ((y3 - 1).toNatClampNeg) rfl (hS 97 _ rfl) hi7 d_X11_reckonAll_312 ?_
        have h := gb_let_e h
        generalize gb_pj g 97 ((y3 - 1).toNatClampNeg) (1 - (g.2.1 97 ((y3 - 1).toNatClampNeg))) = g8 at h ⊢
        refine gb_goto 350 d_X11_reckonAll_313 (by decide) ?_
        refine gb_pick (lv' := [(0, .ref 77), (2, .int y2), (3, .int y3), (4, .int (y4 + 1))]) [2, 3, 4, 0] rfl ?_
        exact t_X11_reckonAll_350 hS hK10 _ y2 y3 (y4 + 1) h
    · have h := gb_if hc h
      refine gb_iinc (y3 + (-1)) [(3, .int (y3 + (-1))), (4, .int (y4 + 1)), (6, .int z0), (0, .ref 77), (2, .int y2), (5, .int y5)] d_X11_reckonAll_218 (Nat.le_of_ble_eq_true rfl) rfl rfl rfl ?_
      refine gb_aload_n d_X11_reckonAll_221 rfl ?_
      refine gb_getr (r := 97) f_X11_107 (hS 77 _ rfl) rfl d_X11_reckonAll_222 ?_
      refine gb_iload_n d_X11_reckonAll_225 rfl ?_
      refine gb_iconst 1 d_X11_reckonAll_226 rfl ?_
      refine gb_isub d_X11_reckonAll_227 ?_
      refine gb_aload_n d_X11_reckonAll_228 rfl ?_
      refine gb_iload d_X11_reckonAll_229 rfl ?_
      refine gb_aload_n d_X11_reckonAll_231 rfl ?_
      refine gb_getr (r := 97) f_X11_107 (hS 77 _ rfl) rfl d_X11_reckonAll_232 ?_
      refine gb_iload_n d_X11_reckonAll_235 rfl ?_
      refine gb_iconst 1 d_X11_reckonAll_236 rfl ?_
      refine gb_isub d_X11_reckonAll_237 ?_
      obtain ⟨hi9, h⟩ := gb_ck_e h
      refine gb_lald_ (((y3 + (-1)) - 1).toNatClampNeg) rfl (hS 97 _ rfl) hi9 d_X11_reckonAll_238 ?_
      refine gb_aload_n d_X11_reckonAll_239 rfl ?_
      refine gb_getr (r := 97) f_X11_107 (hS 77 _ rfl) rfl d_X11_reckonAll_240 ?_
      refine gb_iload_n d_X11_reckonAll_243 rfl ?_
      obtain ⟨hi10, h⟩ := gb_ck_e h
      refine gb_lald_ ((y3 + (-1)).toNatClampNeg) rfl (hS 97 _ rfl) hi10 d_X11_reckonAll_244 ?_
      obtain ⟨r11, e12, h⟩ := gb_bd_e h
      refine gb_cVl (As := [.int y5, .long (g.2.1 97 (((y3 + (-1)) - 1).toNatClampNeg)), .long (g.2.1 97 ((y3 + (-1)).toNatClampNeg))]) (rest := [.int ((y3 + (-1)) - 1), .ref 97]) m_X11_379 (t_X11_reckon (Γ := Γ) hS e12) (hS 77 _ rfl) rfl (Nat.le_of_ble_eq_true rfl) rfl rfl (Nat.le_of_ble_eq_true rfl) d_X11_reckonAll_245 ?_
      obtain ⟨hi13, h⟩ := gb_ck_e h
      refine gb_last_ (((y3 + (-1)) - 1).toNatClampNeg) rfl (hS 97 _ rfl) hi13 d_X11_reckonAll_248 ?_
      have h := gb_let_e h
      generalize gb_pj r11.1 97 (((y3 + (-1)) - 1).toNatClampNeg) r11.2 = g14 at h ⊢
      refine gb_aload_n d_X11_reckonAll_249 rfl ?_
      refine gb_aload_n d_X11_reckonAll_250 rfl ?_
      refine gb_geti f_X11_373 (hS 77 _ rfl) rfl d_X11_reckonAll_251 ?_
      refine gb_if_ne 277 d_X11_reckonAll_254 (by decide) (fun hc => ?_) (fun hc => ?_)
      · have h := gb_if hc h
        refine gb_iconst 1 d_X11_reckonAll_277 rfl ?_
        refine gb_goto 282 d_X11_reckonAll_278 (by decide) ?_
        refine gb_pick (lv' := [(0, .ref 77), (2, .int y2), (3, .int (y3 + (-1))), (4, .int (y4 + 1))]) [3, 4, 0, 1] rfl ?_
        exact t_X11_reckonAll_282 hS (fun w w0 w1 w2 hw => t_X11_reckonAll_350 hS hK10 w w0 w1 w2 hw) _ y2 (y3 + (-1)) (y4 + 1) 1 h
      · have h := gb_it hc h
        refine gb_aload_n d_X11_reckonAll_257 rfl ?_
        refine gb_getr (r := 97) f_X11_107 (hS 77 _ rfl) rfl d_X11_reckonAll_258 ?_
        refine gb_iload_n d_X11_reckonAll_261 rfl ?_
        refine gb_iconst 1 d_X11_reckonAll_262 rfl ?_
        refine gb_isub d_X11_reckonAll_263 ?_
        obtain ⟨hi17, h⟩ := gb_ck_e h
        refine gb_lald_ (((y3 + (-1)) - 1).toNatClampNeg) rfl (hS 97 _ rfl) hi17 d_X11_reckonAll_264 ?_
        refine gb_ldc2 (-1000000000) k_X11_383 d_X11_reckonAll_265 ?_
        refine gb_ldc2 1000000000 k_X11_385 d_X11_reckonAll_268 ?_
        obtain ⟨r18, e19, h⟩ := gb_bd_e h
        refine gb_cSi (As := [.long (g14.2.1 97 (((y3 + (-1)) - 1).toNatClampNeg)), .long (-1000000000), .long 1000000000]) (rest := [.ref 77]) m_X11_165 (t_X11_in (Γ := Γ) hS e19) (Nat.le_of_ble_eq_true rfl) rfl rfl (Nat.le_of_ble_eq_true rfl) d_X11_reckonAll_271 ?_
        refine gb_if_ne 281 d_X11_reckonAll_274 (by decide) (fun hc => ?_) (fun hc => ?_)
        · have h := gb_if hc h
          refine gb_iconst 0 d_X11_reckonAll_281 rfl ?_
          refine gb_pick (lv' := [(0, .ref 77), (2, .int y2), (3, .int (y3 + (-1))), (4, .int (y4 + 1))]) [3, 4, 0, 1] rfl ?_
          exact t_X11_reckonAll_282 hS (fun w w0 w1 w2 hw => t_X11_reckonAll_350 hS hK10 w w0 w1 w2 hw) _ y2 (y3 + (-1)) (y4 + 1) 0 h
        · have h := gb_it hc h
          refine gb_iconst 1 d_X11_reckonAll_277 rfl ?_
          refine gb_goto 282 d_X11_reckonAll_278 (by decide) ?_
          refine gb_pick (lv' := [(0, .ref 77), (2, .int y2), (3, .int (y3 + (-1))), (4, .int (y4 + 1))]) [3, 4, 0, 1] rfl ?_
          exact t_X11_reckonAll_282 hS (fun w w0 w1 w2 hw => t_X11_reckonAll_350 hS hK10 w w0 w1 w2 hw) _ y2 (y3 + (-1)) (y4 + 1) 1 h
  · have h := gb_if hc h
    refine gb_aload_n d_X11_reckonAll_107 rfl ?_
    refine gb_getr (r := 97) f_X11_107 (hS 77 _ rfl) rfl d_X11_reckonAll_108 ?_
    refine gb_iload_n d_X11_reckonAll_111 rfl ?_
    refine gb_iload d_X11_reckonAll_112 rfl ?_
    refine gb_if_ne 123 d_X11_reckonAll_114 (by decide) (fun hc => ?_) (fun hc => ?_)
    · have h := gb_if hc h
      refine gb_aload_n d_X11_reckonAll_123 rfl ?_
      refine gb_geti f_X11_299 (hS 77 _ rfl) rfl d_X11_reckonAll_124 ?_
      refine gb_if_ne 140 d_X11_reckonAll_127 (by decide) (fun hc => ?_) (fun hc => ?_)
      · have h := gb_if hc h
        refine gb_iload d_X11_reckonAll_140 rfl ?_
        refine gb_bipush 6 d_X11_reckonAll_142 rfl ?_
        refine gb_icmp_ge 157 d_X11_reckonAll_144 (by decide) (fun hc => ?_) (fun hc => ?_)
        · have h := gb_it hc h
          refine gb_aload_n d_X11_reckonAll_157 rfl ?_
          refine gb_iload d_X11_reckonAll_158 rfl ?_
          obtain ⟨r20, e21, h⟩ := gb_bd_e h
          refine gb_cVi (As := [.int z0]) (rest := [.int y3, .ref 97]) m_X11_184 (t_X11_isGood (Γ := Γ) hS e21) (hS 77 _ rfl) rfl (Nat.le_of_ble_eq_true rfl) rfl rfl (Nat.le_of_ble_eq_true rfl) d_X11_reckonAll_160 ?_
          refine gb_if_ne 172 d_X11_reckonAll_163 (by decide) (fun hc => ?_) (fun hc => ?_)
          · have h := gb_if hc h
            refine gb_iload d_X11_reckonAll_172 rfl ?_
            refine gb_bipush 6 d_X11_reckonAll_174 rfl ?_
            refine gb_icmp_ne 193 d_X11_reckonAll_176 (by decide) (fun hc => ?_) (fun hc => ?_)
            · have h := gb_if hc h
              refine gb_aload_n d_X11_reckonAll_193 rfl ?_
              refine gb_getr (r := 79) f_X11_13 (hS 77 _ rfl) rfl d_X11_reckonAll_194 ?_
              refine gb_bipush 24 d_X11_reckonAll_197 rfl ?_
              refine gb_iload d_X11_reckonAll_199 rfl ?_
              refine gb_iadd d_X11_reckonAll_201 ?_
              obtain ⟨hi22, h⟩ := gb_ck_e h
              refine gb_iald_ ((24 + z0).toNatClampNeg) rfl (hS 79 _ rfl) hi22 d_X11_reckonAll_202 ?_
              refine gb_i2l d_X11_reckonAll_203 ?_
              refine gb_pick (lv' := [(0, .ref 77), (2, .int y2), (3, .int y3), (4, .int (y4 + 1))]) [2, 3, 4, 0] rfl ?_
              exact t_X11_reckonAll_204 hS (fun w w0 w1 w2 hw => t_X11_reckonAll_350 hS hK10 w w0 w1 w2 hw) _ y2 y3 (y4 + 1) ((r20.1.1 79 ((24 + z0).toNatClampNeg)).toInt64) y3 h
            · have h := gb_it hc h
              refine gb_aload_n d_X11_reckonAll_179 rfl ?_
              refine gb_getr (r := 79) f_X11_13 (hS 77 _ rfl) rfl d_X11_reckonAll_180 ?_
              refine gb_bipush 8 d_X11_reckonAll_183 rfl ?_
              refine gb_iload d_X11_reckonAll_185 rfl ?_
              refine gb_iadd d_X11_reckonAll_187 ?_
              obtain ⟨hi25, h⟩ := gb_ck_e h
              refine gb_iald_ ((8 + z0).toNatClampNeg) rfl (hS 79 _ rfl) hi25 d_X11_reckonAll_188 ?_
              refine gb_i2l d_X11_reckonAll_189 ?_
              refine gb_goto 204 d_X11_reckonAll_190 (by decide) ?_
              refine gb_pick (lv' := [(0, .ref 77), (2, .int y2), (3, .int y3), (4, .int (y4 + 1))]) [2, 3, 4, 0] rfl ?_
              exact t_X11_reckonAll_204 hS (fun w w0 w1 w2 hw => t_X11_reckonAll_350 hS hK10 w w0 w1 w2 hw) _ y2 y3 (y4 + 1) ((r20.1.1 79 ((8 + z0).toNatClampNeg)).toInt64) y3 h
          · have h := gb_it hc h
            refine gb_ldc2 (-1) k_X11_251 d_X11_reckonAll_166 ?_
            refine gb_goto 204 d_X11_reckonAll_169 (by decide) ?_
            refine gb_pick (lv' := [(0, .ref 77), (2, .int y2), (3, .int y3), (4, .int (y4 + 1))]) [2, 3, 4, 0] rfl ?_
            exact t_X11_reckonAll_204 hS (fun w w0 w1 w2 hw => t_X11_reckonAll_350 hS hK10 w w0 w1 w2 hw) _ y2 y3 (y4 + 1) (-1) y3 h
        · have h := gb_if hc h
          refine gb_aload_n d_X11_reckonAll_147 rfl ?_
          refine gb_getr (r := 96) f_X11_104 (hS 77 _ rfl) rfl d_X11_reckonAll_148 ?_
          refine gb_iload d_X11_reckonAll_151 rfl ?_
          obtain ⟨hi26, h⟩ := gb_ck_e h
          refine gb_lald_ y5.toNatClampNeg rfl (hS 96 _ rfl) hi26 d_X11_reckonAll_153 ?_
          refine gb_goto 204 d_X11_reckonAll_154 (by decide) ?_
          refine gb_pick (lv' := [(0, .ref 77), (2, .int y2), (3, .int y3), (4, .int (y4 + 1))]) [2, 3, 4, 0] rfl ?_
          exact t_X11_reckonAll_204 hS (fun w w0 w1 w2 hw => t_X11_reckonAll_350 hS hK10 w w0 w1 w2 hw) _ y2 y3 (y4 + 1) (g.2.1 96 y5.toNatClampNeg) y3 h
      · have h := gb_it hc h
        refine gb_aload_n d_X11_reckonAll_130 rfl ?_
        refine gb_getr (r := 95) f_X11_101 (hS 77 _ rfl) rfl d_X11_reckonAll_131 ?_
        refine gb_iload d_X11_reckonAll_134 rfl ?_
        obtain ⟨hi27, h⟩ := gb_ck_e h
        refine gb_lald_ y5.toNatClampNeg rfl (hS 95 _ rfl) hi27 d_X11_reckonAll_136 ?_
        refine gb_goto 204 d_X11_reckonAll_137 (by decide) ?_
        refine gb_pick (lv' := [(0, .ref 77), (2, .int y2), (3, .int y3), (4, .int (y4 + 1))]) [2, 3, 4, 0] rfl ?_
        exact t_X11_reckonAll_204 hS (fun w w0 w1 w2 hw => t_X11_reckonAll_350 hS hK10 w w0 w1 w2 hw) _ y2 y3 (y4 + 1) (g.2.1 95 y5.toNatClampNeg) y3 h
    · have h := gb_it hc h
      refine gb_iload d_X11_reckonAll_117 rfl ?_
      refine gb_i2l d_X11_reckonAll_119 ?_
      refine gb_goto 204 d_X11_reckonAll_120 (by decide) ?_
      refine gb_pick (lv' := [(0, .ref 77), (2, .int y2), (3, .int y3), (4, .int (y4 + 1))]) [2, 3, 4, 0] rfl ?_
      exact t_X11_reckonAll_204 hS (fun w w0 w1 w2 hw => t_X11_reckonAll_350 hS hK10 w w0 w1 w2 hw) _ y2 y3 (y4 + 1) z0.toInt64 y3 h
set_option maxRecDepth 100000 in
set_option maxHeartbeats 4000000 in
theorem t_X11_reckonAll_57 {Γ : gb_X} {sh : List gb_Sh} {out : gb_G} (hS : gb_S sh) {K10 : gb_G → Int32 → Int32 → Int32 → Option (gb_G)} (hK10 : ∀ (g : gb_G) (y2 : Int32) (y3 : Int32) (y4 : Int32), K10 g y2 y3 y4 = some out → gb_J Γ M_X11_reckonAll 2 (gb_Rv sh out) 0 0 sh g 10 [(0, .ref 77), (2, .int y2), (3, .int y3), (4, .int y4)] []) : ∀ (g : gb_G) (y2 : Int32) (y3 : Int32) (y4 : Int32) (z0 : Int32), f_X11_reckonAll_57 sh K10 g y2 y3 y4 z0 = some out → gb_J Γ M_X11_reckonAll 2 (gb_Rv sh out) 0 0 sh g 57 [(0, .ref 77), (2, .int y2), (3, .int y3), (4, .int y4)] [.int z0] := by
  intro g y2 y3 y4 z0 h
  unfold f_X11_reckonAll_57 at h
  refine gb_istore [(5, .int z0), (0, .ref 77), (2, .int y2), (3, .int y3), (4, .int y4)] d_X11_reckonAll_57 (Nat.le_of_ble_eq_true rfl) rfl ?_
  refine gb_aload_n d_X11_reckonAll_59 rfl ?_
  refine gb_geti f_X11_299 (hS 77 _ rfl) rfl d_X11_reckonAll_60 ?_
  refine gb_if_eq 76 d_X11_reckonAll_63 (by decide) (fun hc => ?_) (fun hc => ?_)
  · have h := gb_it hc h
    refine gb_aload_n d_X11_reckonAll_76 rfl ?_
    refine gb_getr (r := 79) f_X11_13 (hS 77 _ rfl) rfl d_X11_reckonAll_77 ?_
    refine gb_aload_n d_X11_reckonAll_80 rfl ?_
    refine gb_geti f_X11_376 (hS 77 _ rfl) rfl d_X11_reckonAll_81 ?_
    refine gb_bipush 98 d_X11_reckonAll_84 rfl ?_
    refine gb_iadd d_X11_reckonAll_86 ?_
    refine gb_iconst 2 d_X11_reckonAll_87 rfl ?_
    refine gb_iload d_X11_reckonAll_88 rfl ?_
    refine gb_imul d_X11_reckonAll_90 ?_
    refine gb_iadd d_X11_reckonAll_91 ?_
    refine gb_iconst 1 d_X11_reckonAll_92 rfl ?_
    refine gb_iadd d_X11_reckonAll_93 ?_
    obtain ⟨hi4, h⟩ := gb_ck_e h
    refine gb_iald_ (((((g.1 77 34) + 98) + (2 * y4)) + 1).toNatClampNeg) rfl (hS 79 _ rfl) hi4 d_X11_reckonAll_94 ?_
    refine gb_pick (lv' := [(0, .ref 77), (2, .int y2), (3, .int y3), (4, .int y4), (5, .int z0)]) [1, 2, 3, 4, 0] rfl ?_
    exact t_X11_reckonAll_95 hS hK10 _ y2 y3 y4 z0 (g.1 79 (((((g.1 77 34) + 98) + (2 * y4)) + 1).toNatClampNeg)) h
  · have h := gb_if hc h
    refine gb_aload_n d_X11_reckonAll_66 rfl ?_
    refine gb_getr (r := 89) f_X11_48 (hS 77 _ rfl) rfl d_X11_reckonAll_67 ?_
    refine gb_iload d_X11_reckonAll_70 rfl ?_
    obtain ⟨hi28, h⟩ := gb_ck_e h
    refine gb_iald_ y4.toNatClampNeg rfl (hS 89 _ rfl) hi28 d_X11_reckonAll_72 ?_
    refine gb_goto 95 d_X11_reckonAll_73 (by decide) ?_
    refine gb_pick (lv' := [(0, .ref 77), (2, .int y2), (3, .int y3), (4, .int y4), (5, .int z0)]) [1, 2, 3, 4, 0] rfl ?_
    exact t_X11_reckonAll_95 hS hK10 _ y2 y3 y4 z0 (g.1 89 y4.toNatClampNeg) h
set_option maxRecDepth 100000 in
set_option maxHeartbeats 4000000 in
theorem t_X11_reckonAll_10 {Γ : gb_X} {sh : List gb_Sh} {out : gb_G} (hS : gb_S sh) : ∀ (n : Nat) (g : gb_G) (y2 : Int32) (y3 : Int32) (y4 : Int32), f_X11_reckonAll_10 sh n g y2 y3 y4 = some out → gb_J Γ M_X11_reckonAll 2 (gb_Rv sh out) 0 0 sh g 10 [(0, .ref 77), (2, .int y2), (3, .int y3), (4, .int y4)] [] := by
  intro n
  induction n with
  | zero => intro g y2 y3 y4 h; cases h
  | succ n ih =>
    intro g y2 y3 y4 h
    rw [f_X11_reckonAll_10] at h
    refine gb_iload d_X11_reckonAll_10 rfl ?_
    refine gb_iload_n d_X11_reckonAll_12 rfl ?_
    refine gb_icmp_ge 353 d_X11_reckonAll_13 (by decide) (fun hc => ?_) (fun hc => ?_)
    · have h := gb_it hc h
      refine gb_pick (lv' := [(0, .ref 77), (3, .int y3)]) [0, 2] rfl ?_
      exact t_X11_reckonAll_353 hS  _ y3 h
    · have h := gb_if hc h
      refine gb_aload_n d_X11_reckonAll_16 rfl ?_
      refine gb_geti f_X11_373 (hS 77 _ rfl) rfl d_X11_reckonAll_17 ?_
      refine gb_if_ne 353 d_X11_reckonAll_20 (by decide) (fun hc => ?_) (fun hc => ?_)
      · have h := gb_if hc h
        refine gb_pick (lv' := [(0, .ref 77), (3, .int y3)]) [0, 2] rfl ?_
        exact t_X11_reckonAll_353 hS  _ y3 h
      · have h := gb_it hc h
        refine gb_aload_n d_X11_reckonAll_23 rfl ?_
        refine gb_geti f_X11_299 (hS 77 _ rfl) rfl d_X11_reckonAll_24 ?_
        refine gb_if_eq 40 d_X11_reckonAll_27 (by decide) (fun hc => ?_) (fun hc => ?_)
        · have h := gb_it hc h
          refine gb_aload_n d_X11_reckonAll_40 rfl ?_
          refine gb_getr (r := 79) f_X11_13 (hS 77 _ rfl) rfl d_X11_reckonAll_41 ?_
          refine gb_aload_n d_X11_reckonAll_44 rfl ?_
          refine gb_geti f_X11_376 (hS 77 _ rfl) rfl d_X11_reckonAll_45 ?_
          refine gb_bipush 98 d_X11_reckonAll_48 rfl ?_
          refine gb_iadd d_X11_reckonAll_50 ?_
          refine gb_iconst 2 d_X11_reckonAll_51 rfl ?_
          refine gb_iload d_X11_reckonAll_52 rfl ?_
          refine gb_imul d_X11_reckonAll_54 ?_
          refine gb_iadd d_X11_reckonAll_55 ?_
          obtain ⟨hi3, h⟩ := gb_ck_e h
          refine gb_iald_ ((((g.1 77 34) + 98) + (2 * y4)).toNatClampNeg) rfl (hS 79 _ rfl) hi3 d_X11_reckonAll_56 ?_
          exact t_X11_reckonAll_57 hS (fun w w0 w1 w2 hw => ih w w0 w1 w2 hw) _ y2 y3 y4 (g.1 79 ((((g.1 77 34) + 98) + (2 * y4)).toNatClampNeg)) h
        · have h := gb_if hc h
          refine gb_aload_n d_X11_reckonAll_30 rfl ?_
          refine gb_getr (r := 88) f_X11_45 (hS 77 _ rfl) rfl d_X11_reckonAll_31 ?_
          refine gb_iload d_X11_reckonAll_34 rfl ?_
          obtain ⟨hi29, h⟩ := gb_ck_e h
          refine gb_iald_ y4.toNatClampNeg rfl (hS 88 _ rfl) hi29 d_X11_reckonAll_36 ?_
          refine gb_goto 57 d_X11_reckonAll_37 (by decide) ?_
          exact t_X11_reckonAll_57 hS (fun w w0 w1 w2 hw => ih w w0 w1 w2 hw) _ y2 y3 y4 (g.1 88 y4.toNatClampNeg) h
set_option maxRecDepth 100000 in
set_option maxHeartbeats 4000000 in
theorem t_X11_reckonAll {Γ : gb_X} {sh : List gb_Sh} {x1 : Int32} {x2 : Int32} {out : gb_G} (hS : gb_S sh) {g : gb_G} (h : f_X11_reckonAll sh g x1 x2 = some out) : gb_C Γ M_X11_reckonAll 2 0 0 sh g [.ref 77, .int x1, .int x2] (gb_Rv sh out) := by
  refine gb_C.of rfl (Nat.le_of_ble_eq_true rfl) ?_
  refine gb_pick (lv' := [(0, .ref 77), (1, .int x1), (2, .int x2)]) [0, 1, 2] rfl ?_
  unfold f_X11_reckonAll at h
  refine gb_aload_n d_X11_reckonAll_0 rfl ?_
  refine gb_iconst 0 d_X11_reckonAll_1 rfl ?_
  refine gb_puti f_X11_373 (fun h => nomatch h) (hS 77 _ rfl) rfl rfl rfl d_X11_reckonAll_2 ?_
  have h := gb_let_e h
  generalize gb_pi g 77 38 0 = g1 at h ⊢
  refine gb_iconst 0 d_X11_reckonAll_5 rfl ?_
  refine gb_istore_n [(3, .int 0), (0, .ref 77), (1, .int x1), (2, .int x2)] d_X11_reckonAll_6 (Nat.le_of_ble_eq_true rfl) rfl ?_
  refine gb_iload_n d_X11_reckonAll_7 rfl ?_
  refine gb_istore [(4, .int x1), (3, .int 0), (0, .ref 77), (1, .int x1), (2, .int x2)] d_X11_reckonAll_8 (Nat.le_of_ble_eq_true rfl) rfl ?_
  refine gb_pick (lv' := [(0, .ref 77), (2, .int x2), (3, .int 0), (4, .int x1)]) [2, 4, 1, 0] rfl ?_
  exact t_X11_reckonAll_10 hS  gb_N _ x2 0 x1 h
-- X11_isSo
noncomputable def f_X11_isSo_59 (sh : List gb_Sh) (g : gb_G) (y1 : Int32) : Option (gb_G × Int32) := gb_ck y1 5520 (if (g.1 79 y1.toNatClampNeg) = 3 then (some (g, 1)) else (gb_ck (y1 + 3) 5520 (gb_ck (y1 + 4) 5520 (gb_bd (f_X11_reckonAll sh g (g.1 79 ((y1 + 3).toNatClampNeg)) (g.1 79 ((y1 + 4).toNatClampNeg))) (fun r6 => gb_let (gb_pj r6 77 40 (r6.2.1 77 39)) (fun g8 => if (g8.1 77 38) = 0 then (some (g8, 1)) else (some (g8, 0))))))))
noncomputable def f_X11_isSo (sh : List gb_Sh) (g : gb_G) (x1 : Int32) : Option (gb_G × Int32) := gb_ck (x1 + 5) 5520 (gb_ck (x1 + 6) 5520 (if (g.1 79 ((x1 + 6).toNatClampNeg)) ≤ (g.1 79 ((x1 + 5).toNatClampNeg)) then (f_X11_isSo_59 sh g x1) else (gb_ck (x1 + 5) 5520 (gb_ck (x1 + 6) 5520 (gb_bd (f_X11_reckonAll sh g (g.1 79 ((x1 + 5).toNatClampNeg)) (g.1 79 ((x1 + 6).toNatClampNeg))) (fun r11 => if (r11.1 77 38) = 0 then (if (lg_cmp (r11.2.1 77 39) 0) = 0 then (some (r11, 0)) else (f_X11_isSo_59 sh r11 x1)) else (some (r11, 0))))))))
set_option maxRecDepth 100000 in
set_option maxHeartbeats 4000000 in
theorem t_X11_isSo_59 {Γ : gb_X} {sh : List gb_Sh} {out : gb_G × Int32} (hS : gb_S sh) : ∀ (g : gb_G) (y1 : Int32), f_X11_isSo_59 sh g y1 = some out → gb_J Γ M_X11_isSo 3 (gb_Ri sh out) 0 0 sh g 59 [(0, .ref 77), (1, .int y1)] [] := by
  intro g y1 h
  unfold f_X11_isSo_59 at h
  refine gb_aload_n d_X11_isSo_59 rfl ?_
  refine gb_getr (r := 79) f_X11_13 (hS 77 _ rfl) rfl d_X11_isSo_60 ?_
  refine gb_iload_n d_X11_isSo_63 rfl ?_
  obtain ⟨hi3, h⟩ := gb_ck_e h
  refine gb_iald_ y1.toNatClampNeg rfl (hS 79 _ rfl) hi3 d_X11_isSo_64 ?_
  refine gb_iconst 3 d_X11_isSo_65 rfl ?_
  refine gb_icmp_eq 110 d_X11_isSo_66 (by decide) (fun hc => ?_) (fun hc => ?_)
  · have h := gb_it hc h
    refine gb_iconst 1 d_X11_isSo_110 rfl ?_
    cases h
    exact gb_zret d_X11_isSo_111 rfl rfl ⟨rfl, rfl, rfl⟩
  · have h := gb_if hc h
    refine gb_aload_n d_X11_isSo_69 rfl ?_
    refine gb_aload_n d_X11_isSo_70 rfl ?_
    refine gb_getr (r := 79) f_X11_13 (hS 77 _ rfl) rfl d_X11_isSo_71 ?_
    refine gb_iload_n d_X11_isSo_74 rfl ?_
    refine gb_iconst 3 d_X11_isSo_75 rfl ?_
    refine gb_iadd d_X11_isSo_76 ?_
    obtain ⟨hi4, h⟩ := gb_ck_e h
    refine gb_iald_ ((y1 + 3).toNatClampNeg) rfl (hS 79 _ rfl) hi4 d_X11_isSo_77 ?_
    refine gb_aload_n d_X11_isSo_78 rfl ?_
    refine gb_getr (r := 79) f_X11_13 (hS 77 _ rfl) rfl d_X11_isSo_79 ?_
    refine gb_iload_n d_X11_isSo_82 rfl ?_
    refine gb_iconst 4 d_X11_isSo_83 rfl ?_
    refine gb_iadd d_X11_isSo_84 ?_
    obtain ⟨hi5, h⟩ := gb_ck_e h
    refine gb_iald_ ((y1 + 4).toNatClampNeg) rfl (hS 79 _ rfl) hi5 d_X11_isSo_85 ?_
    obtain ⟨r6, e7, h⟩ := gb_bd_e h
    refine gb_cVv (As := [.int (g.1 79 ((y1 + 3).toNatClampNeg)), .int (g.1 79 ((y1 + 4).toNatClampNeg))]) (rest := []) m_X11_390 (t_X11_reckonAll (Γ := Γ) hS e7) (hS 77 _ rfl) rfl (Nat.le_of_ble_eq_true rfl) rfl rfl (Nat.le_of_ble_eq_true rfl) d_X11_isSo_86 ?_
    refine gb_aload_n d_X11_isSo_89 rfl ?_
    refine gb_aload_n d_X11_isSo_90 rfl ?_
    refine gb_getl f_X11_387 (hS 77 _ rfl) rfl d_X11_isSo_91 ?_
    refine gb_putl f_X11_393 (fun h => nomatch h) (hS 77 _ rfl) rfl rfl rfl d_X11_isSo_94 ?_
    have h := gb_let_e h
    generalize gb_pj r6 77 40 (r6.2.1 77 39) = g8 at h ⊢
    refine gb_aload_n d_X11_isSo_97 rfl ?_
    refine gb_geti f_X11_373 (hS 77 _ rfl) rfl d_X11_isSo_98 ?_
    refine gb_if_ne 108 d_X11_isSo_101 (by decide) (fun hc => ?_) (fun hc => ?_)
    · have h := gb_if hc h
      refine gb_iconst 0 d_X11_isSo_108 rfl ?_
      cases h
      exact gb_zret d_X11_isSo_109 rfl rfl ⟨rfl, rfl, rfl⟩
    · have h := gb_it hc h
      refine gb_iconst 1 d_X11_isSo_104 rfl ?_
      refine gb_goto 109 d_X11_isSo_105 (by decide) ?_
      cases h
      exact gb_zret d_X11_isSo_109 rfl rfl ⟨rfl, rfl, rfl⟩
set_option maxRecDepth 100000 in
set_option maxHeartbeats 4000000 in
theorem t_X11_isSo {Γ : gb_X} {sh : List gb_Sh} {x1 : Int32} {out : gb_G × Int32} (hS : gb_S sh) {g : gb_G} (h : f_X11_isSo sh g x1 = some out) : gb_C Γ M_X11_isSo 3 0 0 sh g [.ref 77, .int x1] (gb_Ri sh out) := by
  refine gb_C.of rfl (Nat.le_of_ble_eq_true rfl) ?_
  refine gb_pick (lv' := [(0, .ref 77), (1, .int x1)]) [0, 1] rfl ?_
  unfold f_X11_isSo at h
  refine gb_aload_n d_X11_isSo_0 rfl ?_
  refine gb_getr (r := 79) f_X11_13 (hS 77 _ rfl) rfl d_X11_isSo_1 ?_
  refine gb_iload_n d_X11_isSo_4 rfl ?_
  refine gb_iconst 5 d_X11_isSo_5 rfl ?_
  refine gb_iadd d_X11_isSo_6 ?_
  obtain ⟨hi1, h⟩ := gb_ck_e h
  refine gb_iald_ ((x1 + 5).toNatClampNeg) rfl (hS 79 _ rfl) hi1 d_X11_isSo_7 ?_
  refine gb_aload_n d_X11_isSo_8 rfl ?_
  refine gb_getr (r := 79) f_X11_13 (hS 77 _ rfl) rfl d_X11_isSo_9 ?_
  refine gb_iload_n d_X11_isSo_12 rfl ?_
  refine gb_bipush 6 d_X11_isSo_13 rfl ?_
  refine gb_iadd d_X11_isSo_15 ?_
  obtain ⟨hi2, h⟩ := gb_ck_e h
  refine gb_iald_ ((x1 + 6).toNatClampNeg) rfl (hS 79 _ rfl) hi2 d_X11_isSo_16 ?_
  refine gb_icmp_ge 59 d_X11_isSo_17 (by decide) (fun hc => ?_) (fun hc => ?_)
  · have h := gb_it hc h
    exact t_X11_isSo_59 hS  _ x1 h
  · have h := gb_if hc h
    refine gb_aload_n d_X11_isSo_20 rfl ?_
    refine gb_aload_n d_X11_isSo_21 rfl ?_
    refine gb_getr (r := 79) f_X11_13 (hS 77 _ rfl) rfl d_X11_isSo_22 ?_
    refine gb_iload_n d_X11_isSo_25 rfl ?_
    refine gb_iconst 5 d_X11_isSo_26 rfl ?_
    refine gb_iadd d_X11_isSo_27 ?_
    obtain ⟨hi9, h⟩ := gb_ck_e h
    refine gb_iald_ ((x1 + 5).toNatClampNeg) rfl (hS 79 _ rfl) hi9 d_X11_isSo_28 ?_
    refine gb_aload_n d_X11_isSo_29 rfl ?_
    refine gb_getr (r := 79) f_X11_13 (hS 77 _ rfl) rfl d_X11_isSo_30 ?_
    refine gb_iload_n d_X11_isSo_33 rfl ?_
    refine gb_bipush 6 d_X11_isSo_34 rfl ?_
    refine gb_iadd d_X11_isSo_36 ?_
    obtain ⟨hi10, h⟩ := gb_ck_e h
    refine gb_iald_ ((x1 + 6).toNatClampNeg) rfl (hS 79 _ rfl) hi10 d_X11_isSo_37 ?_
    obtain ⟨r11, e12, h⟩ := gb_bd_e h
    refine gb_cVv (As := [.int (g.1 79 ((x1 + 5).toNatClampNeg)), .int (g.1 79 ((x1 + 6).toNatClampNeg))]) (rest := []) m_X11_390 (t_X11_reckonAll (Γ := Γ) hS e12) (hS 77 _ rfl) rfl (Nat.le_of_ble_eq_true rfl) rfl rfl (Nat.le_of_ble_eq_true rfl) d_X11_isSo_38 ?_
    refine gb_aload_n d_X11_isSo_41 rfl ?_
    refine gb_geti f_X11_373 (hS 77 _ rfl) rfl d_X11_isSo_42 ?_
    refine gb_if_ne 57 d_X11_isSo_45 (by decide) (fun hc => ?_) (fun hc => ?_)
    · have h := gb_if hc h
      refine gb_iconst 0 d_X11_isSo_57 rfl ?_
      cases h
      exact gb_zret d_X11_isSo_58 rfl rfl ⟨rfl, rfl, rfl⟩
    · have h := gb_it hc h
      refine gb_aload_n d_X11_isSo_48 rfl ?_
      refine gb_getl f_X11_387 (hS 77 _ rfl) rfl d_X11_isSo_49 ?_
      refine gb_lconst 0 d_X11_isSo_52 rfl ?_
      refine gb_lcmp d_X11_isSo_53 ?_
      refine gb_if_ne 59 d_X11_isSo_54 (by decide) (fun hc => ?_) (fun hc => ?_)
      · have h := gb_if hc h
        exact t_X11_isSo_59 hS  _ x1 h
      · have h := gb_it hc h
        refine gb_iconst 0 d_X11_isSo_57 rfl ?_
        cases h
        exact gb_zret d_X11_isSo_58 rfl rfl ⟨rfl, rfl, rfl⟩
-- X11_tells
noncomputable def f_X11_tells_235 (sh : List gb_Sh) (K170 : gb_G → Int32 → Int64 → Int32 → Option (gb_G × Int64)) (g : gb_G) (y1 : Int32) (y5 : Int64) (y7 : Int32) : Option (gb_G × Int64) := K170 g y1 y5 (y7 + 1)
noncomputable def f_X11_tells_233 (sh : List gb_Sh) (K235 : gb_G → Int32 → Int64 → Int32 → Option (gb_G × Int64)) (g : gb_G) (y1 : Int32) (y7 : Int32) (z0 : Int64) : Option (gb_G × Int64) := K235 g y1 z0 y7
noncomputable def f_X11_tells_170 (sh : List gb_Sh) : Nat → gb_G → Int32 → Int64 → Int32 → Option (gb_G × Int64)
  | 0, _, _, _, _ => none
  | n + 1, g, y1, y5, y7 => gb_ck ((g.1 77 34) + 1) 5520 (if (g.1 79 (((g.1 77 34) + 1).toNatClampNeg)) ≤ y7 then (some (g, y5)) else (gb_ck (((g.1 77 34) + 2) + (8 * y7)) 5520 (if (g.1 79 ((((g.1 77 34) + 2) + (8 * y7)).toNatClampNeg)) = y1 then (gb_bd (f_X11_isSo sh g (((g.1 77 34) + 2) + (8 * y7))) (fun r19 => if r19.2 = 0 then (f_X11_tells_235 sh (fun w w0 w1 w2 => f_X11_tells_170 sh n w w0 w1 w2) r19.1 y1 y5 y7) else (if y1 = 3 then (f_X11_tells_233 sh (fun w w0 w1 w2 => f_X11_tells_235 sh (fun w w0 w1 w2 => f_X11_tells_170 sh n w w0 w1 w2) w w0 w1 w2) r19.1 y1 y7 1) else (f_X11_tells_233 sh (fun w w0 w1 w2 => f_X11_tells_235 sh (fun w w0 w1 w2 => f_X11_tells_170 sh n w w0 w1 w2) w w0 w1 w2) r19.1 y1 y7 (r19.1.2.1 77 40))))) else (f_X11_tells_235 sh (fun w w0 w1 w2 => f_X11_tells_170 sh n w w0 w1 w2) g y1 y5 y7))))
noncomputable def f_X11_tells (sh : List gb_Sh) (g : gb_G) (x1 : Int32) (x2 : Int32) (x3 : Int64) : Option (gb_G × Int64) := if (g.1 79 4) = (-1) then (some (g, x3)) else (gb_let (gb_pi g 77 34 (120 + (900 * (g.1 79 4)))) (fun g1 => gb_let (gb_pj g1 95 1 x2.toInt64) (fun g2 => gb_ck (32 + x2) 5520 (gb_let (gb_pj g2 95 2 ((g2.1 79 ((32 + x2).toNatClampNeg)).toInt64)) (fun g4 => gb_ck (8 + x2) 5520 (gb_let (gb_pj g4 95 3 ((g4.1 79 ((8 + x2).toNatClampNeg)).toInt64)) (fun g6 => gb_ck (24 + x2) 5520 (gb_let (gb_pj g6 95 4 ((g6.1 79 ((24 + x2).toNatClampNeg)).toInt64)) (fun g8 => gb_ck (40 + x2) 5520 (gb_let (gb_pj g8 95 5 ((g8.1 79 ((40 + x2).toNatClampNeg)).toInt64)) (fun g10 => gb_ck (16 + x2) 5520 (gb_let (gb_pj g10 95 6 ((g10.1 79 ((16 + x2).toNatClampNeg)).toInt64)) (fun g12 => gb_ck (48 + x2) 5520 (gb_let (gb_pj g12 95 7 ((g12.1 79 ((48 + x2).toNatClampNeg)).toInt64)) (fun g14 => gb_let (gb_pj g14 95 8 ((g14.1 79 5).toInt64)) (fun g15 => gb_let (gb_pj g15 95 9 ((g15.1 79 7).toInt64)) (fun g16 => f_X11_tells_170 sh gb_N g16 x1 x3 0)))))))))))))))))
set_option maxRecDepth 100000 in
set_option maxHeartbeats 4000000 in
theorem t_X11_tells_235 {Γ : gb_X} {sh : List gb_Sh} {out : gb_G × Int64} (hS : gb_S sh) {K170 : gb_G → Int32 → Int64 → Int32 → Option (gb_G × Int64)} (hK170 : ∀ (g : gb_G) (y1 : Int32) (y5 : Int64) (y7 : Int32), K170 g y1 y5 y7 = some out → gb_J Γ M_X11_tells 4 (gb_Rl sh out) 0 0 sh g 170 [(0, .ref 77), (1, .int y1), (5, .long y5), (7, .int y7)] []) : ∀ (g : gb_G) (y1 : Int32) (y5 : Int64) (y7 : Int32), f_X11_tells_235 sh K170 g y1 y5 y7 = some out → gb_J Γ M_X11_tells 4 (gb_Rl sh out) 0 0 sh g 235 [(0, .ref 77), (1, .int y1), (5, .long y5), (7, .int y7)] [] := by
  intro g y1 y5 y7 h
  unfold f_X11_tells_235 at h
  refine gb_iinc (y7 + 1) [(7, .int (y7 + 1)), (0, .ref 77), (1, .int y1), (5, .long y5)] d_X11_tells_235 (Nat.le_of_ble_eq_true rfl) rfl rfl rfl ?_
  refine gb_goto 170 d_X11_tells_238 (by decide) ?_
  refine gb_pick (lv' := [(0, .ref 77), (1, .int y1), (5, .long y5), (7, .int (y7 + 1))]) [1, 2, 3, 0] rfl ?_
  exact hK170 _ y1 y5 (y7 + 1) h
set_option maxRecDepth 100000 in
set_option maxHeartbeats 4000000 in
theorem t_X11_tells_233 {Γ : gb_X} {sh : List gb_Sh} {out : gb_G × Int64} (hS : gb_S sh) {K235 : gb_G → Int32 → Int64 → Int32 → Option (gb_G × Int64)} (hK235 : ∀ (g : gb_G) (y1 : Int32) (y5 : Int64) (y7 : Int32), K235 g y1 y5 y7 = some out → gb_J Γ M_X11_tells 4 (gb_Rl sh out) 0 0 sh g 235 [(0, .ref 77), (1, .int y1), (5, .long y5), (7, .int y7)] []) : ∀ (g : gb_G) (y1 : Int32) (y7 : Int32) (z0 : Int64), f_X11_tells_233 sh K235 g y1 y7 z0 = some out → gb_J Γ M_X11_tells 4 (gb_Rl sh out) 0 0 sh g 233 [(0, .ref 77), (1, .int y1), (7, .int y7)] [.long z0] := by
  intro g y1 y7 z0 h
  unfold f_X11_tells_233 at h
  refine gb_lstore [(5, .long z0), (0, .ref 77), (1, .int y1), (7, .int y7)] d_X11_tells_233 (Nat.le_of_ble_eq_true rfl) rfl ?_
  refine gb_pick (lv' := [(0, .ref 77), (1, .int y1), (5, .long z0), (7, .int y7)]) [1, 2, 0, 3] rfl ?_
  exact hK235 _ y1 z0 y7 h
set_option maxRecDepth 100000 in
set_option maxHeartbeats 4000000 in
theorem t_X11_tells_170 {Γ : gb_X} {sh : List gb_Sh} {out : gb_G × Int64} (hS : gb_S sh) : ∀ (n : Nat) (g : gb_G) (y1 : Int32) (y5 : Int64) (y7 : Int32), f_X11_tells_170 sh n g y1 y5 y7 = some out → gb_J Γ M_X11_tells 4 (gb_Rl sh out) 0 0 sh g 170 [(0, .ref 77), (1, .int y1), (5, .long y5), (7, .int y7)] [] := by
  intro n
  induction n with
  | zero => intro g y1 y5 y7 h; cases h
  | succ n ih =>
    intro g y1 y5 y7 h
    rw [f_X11_tells_170] at h
    refine gb_iload d_X11_tells_170 rfl ?_
    refine gb_aload_n d_X11_tells_172 rfl ?_
    refine gb_getr (r := 79) f_X11_13 (hS 77 _ rfl) rfl d_X11_tells_173 ?_
    refine gb_aload_n d_X11_tells_176 rfl ?_
    refine gb_geti f_X11_376 (hS 77 _ rfl) rfl d_X11_tells_177 ?_
    refine gb_iconst 1 d_X11_tells_180 rfl ?_
    refine gb_iadd d_X11_tells_181 ?_
    obtain ⟨hi17, h⟩ := gb_ck_e h
    refine gb_iald_ (((g.1 77 34) + 1).toNatClampNeg) rfl (hS 79 _ rfl) hi17 d_X11_tells_182 ?_
    refine gb_icmp_ge 241 d_X11_tells_183 (by decide) (fun hc => ?_) (fun hc => ?_)
    · have h := gb_it hc h
      refine gb_lload d_X11_tells_241 rfl ?_
      cases h
      exact gb_lret d_X11_tells_243 rfl ⟨rfl, rfl, rfl⟩
    · have h := gb_if hc h
      refine gb_aload_n d_X11_tells_186 rfl ?_
      refine gb_geti f_X11_376 (hS 77 _ rfl) rfl d_X11_tells_187 ?_
      refine gb_iconst 2 d_X11_tells_190 rfl ?_
      refine gb_iadd d_X11_tells_191 ?_
      refine gb_bipush 8 d_X11_tells_192 rfl ?_
      refine gb_iload d_X11_tells_194 rfl ?_
      refine gb_imul d_X11_tells_196 ?_
      refine gb_iadd d_X11_tells_197 ?_
      refine gb_istore [(8, .int (((g.1 77 34) + 2) + (8 * y7))), (0, .ref 77), (1, .int y1), (5, .long y5), (7, .int y7)] d_X11_tells_198 (Nat.le_of_ble_eq_true rfl) rfl ?_
      refine gb_aload_n d_X11_tells_200 rfl ?_
      refine gb_getr (r := 79) f_X11_13 (hS 77 _ rfl) rfl d_X11_tells_201 ?_
      refine gb_iload d_X11_tells_204 rfl ?_
      obtain ⟨hi18, h⟩ := gb_ck_e h
      refine gb_iald_ ((((g.1 77 34) + 2) + (8 * y7)).toNatClampNeg) rfl (hS 79 _ rfl) hi18 d_X11_tells_206 ?_
      refine gb_iload_n d_X11_tells_207 rfl ?_
      refine gb_icmp_ne 235 d_X11_tells_208 (by decide) (fun hc => ?_) (fun hc => ?_)
      · have h := gb_if hc h
        refine gb_pick (lv' := [(0, .ref 77), (1, .int y1), (5, .long y5), (7, .int y7)]) [1, 2, 3, 4] rfl ?_
        exact t_X11_tells_235 hS (fun w w0 w1 w2 hw => ih w w0 w1 w2 hw) _ y1 y5 y7 h
      · have h := gb_it hc h
        refine gb_aload_n d_X11_tells_211 rfl ?_
        refine gb_iload d_X11_tells_212 rfl ?_
        obtain ⟨r19, e20, h⟩ := gb_bd_e h
        refine gb_cVi (As := [.int (((g.1 77 34) + 2) + (8 * y7))]) (rest := []) m_X11_396 (t_X11_isSo (Γ := Γ) hS e20) (hS 77 _ rfl) rfl (Nat.le_of_ble_eq_true rfl) rfl rfl (Nat.le_of_ble_eq_true rfl) d_X11_tells_214 ?_
        refine gb_if_eq 235 d_X11_tells_217 (by decide) (fun hc => ?_) (fun hc => ?_)
        · have h := gb_it hc h
          refine gb_pick (lv' := [(0, .ref 77), (1, .int y1), (5, .long y5), (7, .int y7)]) [1, 2, 3, 4] rfl ?_
          exact t_X11_tells_235 hS (fun w w0 w1 w2 hw => ih w w0 w1 w2 hw) _ y1 y5 y7 h
        · have h := gb_if hc h
          refine gb_iload_n d_X11_tells_220 rfl ?_
          refine gb_iconst 3 d_X11_tells_221 rfl ?_
          refine gb_icmp_ne 229 d_X11_tells_222 (by decide) (fun hc => ?_) (fun hc => ?_)
          · have h := gb_if hc h
            refine gb_aload_n d_X11_tells_229 rfl ?_
            refine gb_getl f_X11_393 (hS 77 _ rfl) rfl d_X11_tells_230 ?_
            refine gb_pick (lv' := [(0, .ref 77), (1, .int y1), (7, .int y7)]) [1, 2, 4] rfl ?_
            exact t_X11_tells_233 hS (fun w w0 w1 w2 hw => t_X11_tells_235 hS (fun w w0 w1 w2 hw => ih w w0 w1 w2 hw) w w0 w1 w2 hw) _ y1 y7 (r19.1.2.1 77 40) h
          · have h := gb_it hc h
            refine gb_lconst 1 d_X11_tells_225 rfl ?_
            refine gb_goto 233 d_X11_tells_226 (by decide) ?_
            refine gb_pick (lv' := [(0, .ref 77), (1, .int y1), (7, .int y7)]) [1, 2, 4] rfl ?_
            exact t_X11_tells_233 hS (fun w w0 w1 w2 hw => t_X11_tells_235 hS (fun w w0 w1 w2 hw => ih w w0 w1 w2 hw) w w0 w1 w2 hw) _ y1 y7 1 h
set_option maxRecDepth 100000 in
set_option maxHeartbeats 4000000 in
theorem t_X11_tells {Γ : gb_X} {sh : List gb_Sh} {x1 : Int32} {x2 : Int32} {x3 : Int64} {out : gb_G × Int64} (hS : gb_S sh) {g : gb_G} (h : f_X11_tells sh g x1 x2 x3 = some out) : gb_C Γ M_X11_tells 4 0 0 sh g [.ref 77, .int x1, .int x2, .long x3] (gb_Rl sh out) := by
  refine gb_C.of rfl (Nat.le_of_ble_eq_true rfl) ?_
  refine gb_pick (lv' := [(0, .ref 77), (1, .int x1), (2, .int x2), (3, .long x3)]) [0, 1, 2, 3] rfl ?_
  unfold f_X11_tells at h
  refine gb_aload_n d_X11_tells_0 rfl ?_
  refine gb_getr (r := 79) f_X11_13 (hS 77 _ rfl) rfl d_X11_tells_1 ?_
  refine gb_iconst 4 d_X11_tells_4 rfl ?_
  refine gb_iald_ 4 rfl (hS 79 _ rfl) (by unfold vp_in; decide) d_X11_tells_5 ?_
  refine gb_iconst (-1) d_X11_tells_6 rfl ?_
  refine gb_icmp_ne 12 d_X11_tells_7 (by decide) (fun hc => ?_) (fun hc => ?_)
  · have h := gb_if hc h
    refine gb_aload_n d_X11_tells_12 rfl ?_
    refine gb_bipush 120 d_X11_tells_13 rfl ?_
    refine gb_sipush 900 d_X11_tells_15 rfl ?_
    refine gb_aload_n d_X11_tells_18 rfl ?_
    refine gb_getr (r := 79) f_X11_13 (hS 77 _ rfl) rfl d_X11_tells_19 ?_
    refine gb_iconst 4 d_X11_tells_22 rfl ?_
    refine gb_iald_ 4 rfl (hS 79 _ rfl) (by unfold vp_in; decide) d_X11_tells_23 ?_
    refine gb_imul d_X11_tells_24 ?_
    refine gb_iadd d_X11_tells_25 ?_
    refine gb_puti f_X11_376 (fun h => nomatch h) (hS 77 _ rfl) rfl rfl rfl d_X11_tells_26 ?_
    have h := gb_let_e h
    generalize gb_pi g 77 34 (120 + (900 * (g.1 79 4))) = g1 at h ⊢
    refine gb_aload_n d_X11_tells_29 rfl ?_
    refine gb_getr (r := 95) f_X11_101 (hS 77 _ rfl) rfl d_X11_tells_30 ?_
    refine gb_iconst 1 d_X11_tells_33 rfl ?_
    refine gb_iload_n d_X11_tells_34 rfl ?_
    refine gb_i2l d_X11_tells_35 ?_
    refine gb_last_ 1 rfl (hS 95 _ rfl) (by unfold vp_in; decide) d_X11_tells_36 ?_
    have h := gb_let_e h
    generalize gb_pj g1 95 1 x2.toInt64 = g2 at h ⊢
    refine gb_aload_n d_X11_tells_37 rfl ?_
    refine gb_getr (r := 95) f_X11_101 (hS 77 _ rfl) rfl d_X11_tells_38 ?_
    refine gb_iconst 2 d_X11_tells_41 rfl ?_
    refine gb_aload_n d_X11_tells_42 rfl ?_
    refine gb_getr (r := 79) f_X11_13 (hS 77 _ rfl) rfl d_X11_tells_43 ?_
    refine gb_bipush 32 d_X11_tells_46 rfl ?_
    refine gb_iload_n d_X11_tells_48 rfl ?_
    refine gb_iadd d_X11_tells_49 ?_
    obtain ⟨hi3, h⟩ := gb_ck_e h
    refine gb_iald_ ((32 + x2).toNatClampNeg) rfl (hS 79 _ rfl) hi3 d_X11_tells_50 ?_
    refine gb_i2l d_X11_tells_51 ?_
    refine gb_last_ 2 rfl (hS 95 _ rfl) (by unfold vp_in; decide) d_X11_tells_52 ?_
    have h := gb_let_e h
    generalize gb_pj g2 95 2 ((g2.1 79 ((32 + x2).toNatClampNeg)).toInt64) = g4 at h ⊢
    refine gb_aload_n d_X11_tells_53 rfl ?_
    refine gb_getr (r := 95) f_X11_101 (hS 77 _ rfl) rfl d_X11_tells_54 ?_
    refine gb_iconst 3 d_X11_tells_57 rfl ?_
    refine gb_aload_n d_X11_tells_58 rfl ?_
    refine gb_getr (r := 79) f_X11_13 (hS 77 _ rfl) rfl d_X11_tells_59 ?_
    refine gb_bipush 8 d_X11_tells_62 rfl ?_
    refine gb_iload_n d_X11_tells_64 rfl ?_
    refine gb_iadd d_X11_tells_65 ?_
    obtain ⟨hi5, h⟩ := gb_ck_e h
    refine gb_iald_ ((8 + x2).toNatClampNeg) rfl (hS 79 _ rfl) hi5 d_X11_tells_66 ?_
    refine gb_i2l d_X11_tells_67 ?_
    refine gb_last_ 3 rfl (hS 95 _ rfl) (by unfold vp_in; decide) d_X11_tells_68 ?_
    have h := gb_let_e h
    generalize gb_pj g4 95 3 ((g4.1 79 ((8 + x2).toNatClampNeg)).toInt64) = g6 at h ⊢
    refine gb_aload_n d_X11_tells_69 rfl ?_
    refine gb_getr (r := 95) f_X11_101 (hS 77 _ rfl) rfl d_X11_tells_70 ?_
    refine gb_iconst 4 d_X11_tells_73 rfl ?_
    refine gb_aload_n d_X11_tells_74 rfl ?_
    refine gb_getr (r := 79) f_X11_13 (hS 77 _ rfl) rfl d_X11_tells_75 ?_
    refine gb_bipush 24 d_X11_tells_78 rfl ?_
    refine gb_iload_n d_X11_tells_80 rfl ?_
    refine gb_iadd d_X11_tells_81 ?_
    obtain ⟨hi7, h⟩ := gb_ck_e h
    refine gb_iald_ ((24 + x2).toNatClampNeg) rfl (hS 79 _ rfl) hi7 d_X11_tells_82 ?_
    refine gb_i2l d_X11_tells_83 ?_
    refine gb_last_ 4 rfl (hS 95 _ rfl) (by unfold vp_in; decide) d_X11_tells_84 ?_
    have h := gb_let_e h
    generalize gb_pj g6 95 4 ((g6.1 79 ((24 + x2).toNatClampNeg)).toInt64) = g8 at h ⊢
    refine gb_aload_n d_X11_tells_85 rfl ?_
    refine gb_getr (r := 95) f_X11_101 (hS 77 _ rfl) rfl d_X11_tells_86 ?_
    refine gb_iconst 5 d_X11_tells_89 rfl ?_
    refine gb_aload_n d_X11_tells_90 rfl ?_
    refine gb_getr (r := 79) f_X11_13 (hS 77 _ rfl) rfl d_X11_tells_91 ?_
    refine gb_bipush 40 d_X11_tells_94 rfl ?_
    refine gb_iload_n d_X11_tells_96 rfl ?_
    refine gb_iadd d_X11_tells_97 ?_
    obtain ⟨hi9, h⟩ := gb_ck_e h
    refine gb_iald_ ((40 + x2).toNatClampNeg) rfl (hS 79 _ rfl) hi9 d_X11_tells_98 ?_
    refine gb_i2l d_X11_tells_99 ?_
    refine gb_last_ 5 rfl (hS 95 _ rfl) (by unfold vp_in; decide) d_X11_tells_100 ?_
    have h := gb_let_e h
    generalize gb_pj g8 95 5 ((g8.1 79 ((40 + x2).toNatClampNeg)).toInt64) = g10 at h ⊢
    refine gb_aload_n d_X11_tells_101 rfl ?_
    refine gb_getr (r := 95) f_X11_101 (hS 77 _ rfl) rfl d_X11_tells_102 ?_
    refine gb_bipush 6 d_X11_tells_105 rfl ?_
    refine gb_aload_n d_X11_tells_107 rfl ?_
    refine gb_getr (r := 79) f_X11_13 (hS 77 _ rfl) rfl d_X11_tells_108 ?_
    refine gb_bipush 16 d_X11_tells_111 rfl ?_
    refine gb_iload_n d_X11_tells_113 rfl ?_
    refine gb_iadd d_X11_tells_114 ?_
    obtain ⟨hi11, h⟩ := gb_ck_e h
    refine gb_iald_ ((16 + x2).toNatClampNeg) rfl (hS 79 _ rfl) hi11 d_X11_tells_115 ?_
    refine gb_i2l d_X11_tells_116 ?_
    refine gb_last_ 6 rfl (hS 95 _ rfl) (by unfold vp_in; decide) d_X11_tells_117 ?_
    have h := gb_let_e h
    generalize gb_pj g10 95 6 ((g10.1 79 ((16 + x2).toNatClampNeg)).toInt64) = g12 at h ⊢
    refine gb_aload_n d_X11_tells_118 rfl ?_
    refine gb_getr (r := 95) f_X11_101 (hS 77 _ rfl) rfl d_X11_tells_119 ?_
    refine gb_bipush 7 d_X11_tells_122 rfl ?_
    refine gb_aload_n d_X11_tells_124 rfl ?_
    refine gb_getr (r := 79) f_X11_13 (hS 77 _ rfl) rfl d_X11_tells_125 ?_
    refine gb_bipush 48 d_X11_tells_128 rfl ?_
    refine gb_iload_n d_X11_tells_130 rfl ?_
    refine gb_iadd d_X11_tells_131 ?_
    obtain ⟨hi13, h⟩ := gb_ck_e h
    refine gb_iald_ ((48 + x2).toNatClampNeg) rfl (hS 79 _ rfl) hi13 d_X11_tells_132 ?_
    refine gb_i2l d_X11_tells_133 ?_
    refine gb_last_ 7 rfl (hS 95 _ rfl) (by unfold vp_in; decide) d_X11_tells_134 ?_
    have h := gb_let_e h
    generalize gb_pj g12 95 7 ((g12.1 79 ((48 + x2).toNatClampNeg)).toInt64) = g14 at h ⊢
    refine gb_aload_n d_X11_tells_135 rfl ?_
    refine gb_getr (r := 95) f_X11_101 (hS 77 _ rfl) rfl d_X11_tells_136 ?_
    refine gb_bipush 8 d_X11_tells_139 rfl ?_
    refine gb_aload_n d_X11_tells_141 rfl ?_
    refine gb_getr (r := 79) f_X11_13 (hS 77 _ rfl) rfl d_X11_tells_142 ?_
    refine gb_iconst 5 d_X11_tells_145 rfl ?_
    refine gb_iald_ 5 rfl (hS 79 _ rfl) (by unfold vp_in; decide) d_X11_tells_146 ?_
    refine gb_i2l d_X11_tells_147 ?_
    refine gb_last_ 8 rfl (hS 95 _ rfl) (by unfold vp_in; decide) d_X11_tells_148 ?_
    have h := gb_let_e h
    generalize gb_pj g14 95 8 ((g14.1 79 5).toInt64) = g15 at h ⊢
    refine gb_aload_n d_X11_tells_149 rfl ?_
    refine gb_getr (r := 95) f_X11_101 (hS 77 _ rfl) rfl d_X11_tells_150 ?_
    refine gb_bipush 9 d_X11_tells_153 rfl ?_
    refine gb_aload_n d_X11_tells_155 rfl ?_
    refine gb_getr (r := 79) f_X11_13 (hS 77 _ rfl) rfl d_X11_tells_156 ?_
    refine gb_bipush 7 d_X11_tells_159 rfl ?_
    refine gb_iald_ 7 rfl (hS 79 _ rfl) (by unfold vp_in; decide) d_X11_tells_161 ?_
    refine gb_i2l d_X11_tells_162 ?_
    refine gb_last_ 9 rfl (hS 95 _ rfl) (by unfold vp_in; decide) d_X11_tells_163 ?_
    have h := gb_let_e h
    generalize gb_pj g15 95 9 ((g15.1 79 7).toInt64) = g16 at h ⊢
    refine gb_lload_n d_X11_tells_164 rfl ?_
    refine gb_lstore [(5, .long x3), (0, .ref 77), (1, .int x1), (2, .int x2), (3, .long x3)] d_X11_tells_165 (Nat.le_of_ble_eq_true rfl) rfl ?_
    refine gb_iconst 0 d_X11_tells_167 rfl ?_
    refine gb_istore [(7, .int 0), (5, .long x3), (0, .ref 77), (1, .int x1), (2, .int x2), (3, .long x3)] d_X11_tells_168 (Nat.le_of_ble_eq_true rfl) rfl ?_
    refine gb_pick (lv' := [(0, .ref 77), (1, .int x1), (5, .long x3), (7, .int 0)]) [2, 3, 1, 0] rfl ?_
    exact t_X11_tells_170 hS  gb_N _ x1 x3 0 h
  · have h := gb_it hc h
    refine gb_lload_n d_X11_tells_10 rfl ?_
    cases h
    exact gb_lret d_X11_tells_11 rfl ⟨rfl, rfl, rfl⟩
-- X11_countsOf
noncomputable def f_X11_countsOf_31 (sh : List gb_Sh) (g : gb_G) (y1 : Int32) (z0 : Int32) : Option (gb_G × Int32) := if z0 = 0 then (gb_ck (24 + y1) 5520 (gb_bd (f_X11_tells sh g 1 y1 ((g.1 79 ((24 + y1).toNatClampNeg)).toInt64)) (fun r3 => gb_bd (f_X11_within sh r3.1 r3.2 0 99) (fun r5 => some (r5.1, r5.2))))) else (some (g, 0))
noncomputable def f_X11_countsOf (sh : List gb_Sh) (g : gb_G) (x1 : Int32) : Option (gb_G × Int32) := gb_ck (16 + x1) 5520 (if (g.1 79 ((16 + x1).toNatClampNeg)) = 1 then (gb_ck (56 + x1) 5520 (if (g.1 79 ((56 + x1).toNatClampNeg)) = (-1) then (f_X11_countsOf_31 sh g x1 1) else (f_X11_countsOf_31 sh g x1 0))) else (f_X11_countsOf_31 sh g x1 0))
set_option maxRecDepth 100000 in
set_option maxHeartbeats 4000000 in
theorem t_X11_countsOf_31 {Γ : gb_X} {sh : List gb_Sh} {out : gb_G × Int32} (hS : gb_S sh) : ∀ (g : gb_G) (y1 : Int32) (z0 : Int32), f_X11_countsOf_31 sh g y1 z0 = some out → gb_J Γ M_X11_countsOf 5 (gb_Ri sh out) 0 0 sh g 31 [(0, .ref 77), (1, .int y1)] [.int z0] := by
  intro g y1 z0 h
  unfold f_X11_countsOf_31 at h
  refine gb_istore_n [(2, .int z0), (0, .ref 77), (1, .int y1)] d_X11_countsOf_31 (Nat.le_of_ble_eq_true rfl) rfl ?_
  refine gb_iload_n d_X11_countsOf_32 rfl ?_
  refine gb_if_eq 40 d_X11_countsOf_33 (by decide) (fun hc => ?_) (fun hc => ?_)
  · have h := gb_it hc h
    refine gb_aload_n d_X11_countsOf_40 rfl ?_
    refine gb_iconst 1 d_X11_countsOf_41 rfl ?_
    refine gb_iload_n d_X11_countsOf_42 rfl ?_
    refine gb_aload_n d_X11_countsOf_43 rfl ?_
    refine gb_getr (r := 79) f_X11_13 (hS 77 _ rfl) rfl d_X11_countsOf_44 ?_
    refine gb_bipush 24 d_X11_countsOf_47 rfl ?_
    refine gb_iload_n d_X11_countsOf_49 rfl ?_
    refine gb_iadd d_X11_countsOf_50 ?_
    obtain ⟨hi2, h⟩ := gb_ck_e h
    refine gb_iald_ ((24 + y1).toNatClampNeg) rfl (hS 79 _ rfl) hi2 d_X11_countsOf_51 ?_
    refine gb_i2l d_X11_countsOf_52 ?_
    obtain ⟨r3, e4, h⟩ := gb_bd_e h
    refine gb_cVl (As := [.int 1, .int y1, .long ((g.1 79 ((24 + y1).toNatClampNeg)).toInt64)]) (rest := []) m_X11_399 (t_X11_tells (Γ := Γ) hS e4) (hS 77 _ rfl) rfl (Nat.le_of_ble_eq_true rfl) rfl rfl (Nat.le_of_ble_eq_true rfl) d_X11_countsOf_53 ?_
    refine gb_iconst 0 d_X11_countsOf_56 rfl ?_
    refine gb_bipush 99 d_X11_countsOf_57 rfl ?_
    obtain ⟨r5, e6, h⟩ := gb_bd_e h
    refine gb_cSi (As := [.long r3.2, .int 0, .int 99]) (rest := []) m_X11_403 (t_X11_within (Γ := Γ) hS e6) (Nat.le_of_ble_eq_true rfl) rfl rfl (Nat.le_of_ble_eq_true rfl) d_X11_countsOf_59 ?_
    cases h
    exact gb_iret d_X11_countsOf_62 rfl ⟨rfl, rfl, rfl⟩
  · have h := gb_if hc h
    refine gb_iconst 0 d_X11_countsOf_36 rfl ?_
    refine gb_goto 62 d_X11_countsOf_37 (by decide) ?_
    cases h
    exact gb_iret d_X11_countsOf_62 rfl ⟨rfl, rfl, rfl⟩
set_option maxRecDepth 100000 in
set_option maxHeartbeats 4000000 in
theorem t_X11_countsOf {Γ : gb_X} {sh : List gb_Sh} {x1 : Int32} {out : gb_G × Int32} (hS : gb_S sh) {g : gb_G} (h : f_X11_countsOf sh g x1 = some out) : gb_C Γ M_X11_countsOf 5 0 0 sh g [.ref 77, .int x1] (gb_Ri sh out) := by
  refine gb_C.of rfl (Nat.le_of_ble_eq_true rfl) ?_
  refine gb_pick (lv' := [(0, .ref 77), (1, .int x1)]) [0, 1] rfl ?_
  unfold f_X11_countsOf at h
  refine gb_aload_n d_X11_countsOf_0 rfl ?_
  refine gb_getr (r := 79) f_X11_13 (hS 77 _ rfl) rfl d_X11_countsOf_1 ?_
  refine gb_bipush 16 d_X11_countsOf_4 rfl ?_
  refine gb_iload_n d_X11_countsOf_6 rfl ?_
  refine gb_iadd d_X11_countsOf_7 ?_
  obtain ⟨hi1, h⟩ := gb_ck_e h
  refine gb_iald_ ((16 + x1).toNatClampNeg) rfl (hS 79 _ rfl) hi1 d_X11_countsOf_8 ?_
  refine gb_iconst 1 d_X11_countsOf_9 rfl ?_
  refine gb_icmp_ne 30 d_X11_countsOf_10 (by decide) (fun hc => ?_) (fun hc => ?_)
  · have h := gb_if hc h
    refine gb_iconst 0 d_X11_countsOf_30 rfl ?_
    exact t_X11_countsOf_31 hS  _ x1 0 h
  · have h := gb_it hc h
    refine gb_aload_n d_X11_countsOf_13 rfl ?_
    refine gb_getr (r := 79) f_X11_13 (hS 77 _ rfl) rfl d_X11_countsOf_14 ?_
    refine gb_bipush 56 d_X11_countsOf_17 rfl ?_
    refine gb_iload_n d_X11_countsOf_19 rfl ?_
    refine gb_iadd d_X11_countsOf_20 ?_
    obtain ⟨hi7, h⟩ := gb_ck_e h
    refine gb_iald_ ((56 + x1).toNatClampNeg) rfl (hS 79 _ rfl) hi7 d_X11_countsOf_21 ?_
    refine gb_iconst (-1) d_X11_countsOf_22 rfl ?_
    refine gb_icmp_ne 30 d_X11_countsOf_23 (by decide) (fun hc => ?_) (fun hc => ?_)
    · have h := gb_if hc h
      refine gb_iconst 0 d_X11_countsOf_30 rfl ?_
      exact t_X11_countsOf_31 hS  _ x1 0 h
    · have h := gb_it hc h
      refine gb_iconst 1 d_X11_countsOf_26 rfl ?_
      refine gb_goto 31 d_X11_countsOf_27 (by decide) ?_
      exact t_X11_countsOf_31 hS  _ x1 1 h
-- X11_gladsOf
noncomputable def f_X11_gladsOf (sh : List gb_Sh) (g : gb_G) (x1 : Int32) : Option (gb_G × Int32) := gb_ck (40 + x1) 5520 (gb_bd (f_X11_tells sh g 2 x1 ((g.1 79 ((40 + x1).toNatClampNeg)).toInt64)) (fun r2 => gb_bd (f_X11_within sh r2.1 r2.2 0 9) (fun r4 => some (r4.1, r4.2))))
set_option maxRecDepth 100000 in
set_option maxHeartbeats 4000000 in
theorem t_X11_gladsOf {Γ : gb_X} {sh : List gb_Sh} {x1 : Int32} {out : gb_G × Int32} (hS : gb_S sh) {g : gb_G} (h : f_X11_gladsOf sh g x1 = some out) : gb_C Γ M_X11_gladsOf 5 0 0 sh g [.ref 77, .int x1] (gb_Ri sh out) := by
  refine gb_C.of rfl (Nat.le_of_ble_eq_true rfl) ?_
  refine gb_pick (lv' := [(0, .ref 77), (1, .int x1)]) [0, 1] rfl ?_
  unfold f_X11_gladsOf at h
  refine gb_aload_n d_X11_gladsOf_0 rfl ?_
  refine gb_iconst 2 d_X11_gladsOf_1 rfl ?_
  refine gb_iload_n d_X11_gladsOf_2 rfl ?_
  refine gb_aload_n d_X11_gladsOf_3 rfl ?_
  refine gb_getr (r := 79) f_X11_13 (hS 77 _ rfl) rfl d_X11_gladsOf_4 ?_
  refine gb_bipush 40 d_X11_gladsOf_7 rfl ?_
  refine gb_iload_n d_X11_gladsOf_9 rfl ?_
  refine gb_iadd d_X11_gladsOf_10 ?_
  obtain ⟨hi1, h⟩ := gb_ck_e h
  refine gb_iald_ ((40 + x1).toNatClampNeg) rfl (hS 79 _ rfl) hi1 d_X11_gladsOf_11 ?_
  refine gb_i2l d_X11_gladsOf_12 ?_
  obtain ⟨r2, e3, h⟩ := gb_bd_e h
  refine gb_cVl (As := [.int 2, .int x1, .long ((g.1 79 ((40 + x1).toNatClampNeg)).toInt64)]) (rest := []) m_X11_399 (t_X11_tells (Γ := Γ) hS e3) (hS 77 _ rfl) rfl (Nat.le_of_ble_eq_true rfl) rfl rfl (Nat.le_of_ble_eq_true rfl) d_X11_gladsOf_13 ?_
  refine gb_iconst 0 d_X11_gladsOf_16 rfl ?_
  refine gb_bipush 9 d_X11_gladsOf_17 rfl ?_
  obtain ⟨r4, e5, h⟩ := gb_bd_e h
  refine gb_cSi (As := [.long r2.2, .int 0, .int 9]) (rest := []) m_X11_403 (t_X11_within (Γ := Γ) hS e5) (Nat.le_of_ble_eq_true rfl) rfl rfl (Nat.le_of_ble_eq_true rfl) d_X11_gladsOf_19 ?_
  cases h
  exact gb_iret d_X11_gladsOf_22 rfl ⟨rfl, rfl, rfl⟩
-- X11_isBarred
noncomputable def f_X11_isBarred (sh : List gb_Sh) (g : gb_G) (x1 : Int32) : Option (gb_G × Int32) := gb_bd (f_X11_tells sh g 3 x1 0) (fun r1 => if (lg_cmp r1.2 1) = 0 then (some (r1.1, 1)) else (some (r1.1, 0)))
set_option maxRecDepth 100000 in
set_option maxHeartbeats 4000000 in
theorem t_X11_isBarred {Γ : gb_X} {sh : List gb_Sh} {x1 : Int32} {out : gb_G × Int32} (hS : gb_S sh) {g : gb_G} (h : f_X11_isBarred sh g x1 = some out) : gb_C Γ M_X11_isBarred 5 0 0 sh g [.ref 77, .int x1] (gb_Ri sh out) := by
  refine gb_C.of rfl (Nat.le_of_ble_eq_true rfl) ?_
  refine gb_pick (lv' := [(0, .ref 77), (1, .int x1)]) [0, 1] rfl ?_
  unfold f_X11_isBarred at h
  refine gb_aload_n d_X11_isBarred_0 rfl ?_
  refine gb_iconst 3 d_X11_isBarred_1 rfl ?_
  refine gb_iload_n d_X11_isBarred_2 rfl ?_
  refine gb_lconst 0 d_X11_isBarred_3 rfl ?_
  obtain ⟨r1, e2, h⟩ := gb_bd_e h
  refine gb_cVl (As := [.int 3, .int x1, .long 0]) (rest := []) m_X11_399 (t_X11_tells (Γ := Γ) hS e2) (hS 77 _ rfl) rfl (Nat.le_of_ble_eq_true rfl) rfl rfl (Nat.le_of_ble_eq_true rfl) d_X11_isBarred_4 ?_
  refine gb_lconst 1 d_X11_isBarred_7 rfl ?_
  refine gb_lcmp d_X11_isBarred_8 ?_
  refine gb_if_ne 16 d_X11_isBarred_9 (by decide) (fun hc => ?_) (fun hc => ?_)
  · have h := gb_if hc h
    refine gb_iconst 0 d_X11_isBarred_16 rfl ?_
    cases h
    exact gb_zret d_X11_isBarred_17 rfl rfl ⟨rfl, rfl, rfl⟩
  · have h := gb_it hc h
    refine gb_iconst 1 d_X11_isBarred_12 rfl ?_
    refine gb_goto 17 d_X11_isBarred_13 (by decide) ?_
    cases h
    exact gb_zret d_X11_isBarred_17 rfl rfl ⟨rfl, rfl, rfl⟩
-- X11_movesOf
noncomputable def f_X11_movesOf (sh : List gb_Sh) (g : gb_G) (x1 : Int32) : Option (gb_G × Int32) := gb_bd (f_X11_tells sh g 0 x1 0) (fun r1 => gb_bd (f_X11_within sh r1.1 r1.2 (-9) 9) (fun r3 => some (r3.1, r3.2)))
set_option maxRecDepth 100000 in
set_option maxHeartbeats 4000000 in
theorem t_X11_movesOf {Γ : gb_X} {sh : List gb_Sh} {x1 : Int32} {out : gb_G × Int32} (hS : gb_S sh) {g : gb_G} (h : f_X11_movesOf sh g x1 = some out) : gb_C Γ M_X11_movesOf 5 0 0 sh g [.ref 77, .int x1] (gb_Ri sh out) := by
  refine gb_C.of rfl (Nat.le_of_ble_eq_true rfl) ?_
  refine gb_pick (lv' := [(0, .ref 77), (1, .int x1)]) [0, 1] rfl ?_
  unfold f_X11_movesOf at h
  refine gb_aload_n d_X11_movesOf_0 rfl ?_
  refine gb_iconst 0 d_X11_movesOf_1 rfl ?_
  refine gb_iload_n d_X11_movesOf_2 rfl ?_
  refine gb_lconst 0 d_X11_movesOf_3 rfl ?_
  obtain ⟨r1, e2, h⟩ := gb_bd_e h
  refine gb_cVl (As := [.int 0, .int x1, .long 0]) (rest := []) m_X11_399 (t_X11_tells (Γ := Γ) hS e2) (hS 77 _ rfl) rfl (Nat.le_of_ble_eq_true rfl) rfl rfl (Nat.le_of_ble_eq_true rfl) d_X11_movesOf_4 ?_
  refine gb_bipush (-9) d_X11_movesOf_7 rfl ?_
  refine gb_bipush 9 d_X11_movesOf_9 rfl ?_
  obtain ⟨r3, e4, h⟩ := gb_bd_e h
  refine gb_cSi (As := [.long r1.2, .int (-9), .int 9]) (rest := []) m_X11_403 (t_X11_within (Γ := Γ) hS e4) (Nat.le_of_ble_eq_true rfl) rfl rfl (Nat.le_of_ble_eq_true rfl) d_X11_movesOf_11 ?_
  cases h
  exact gb_iret d_X11_movesOf_14 rfl ⟨rfl, rfl, rfl⟩
-- X11_asks
noncomputable def f_X11_asks (sh : List gb_Sh) (g : gb_G) (x1 : Int32) (x2 : Int32) : Option (gb_G × Int32) := gb_let (gb_pi g 77 0 0) (fun g1 => gb_bd (f_X11_isGood sh g1 x1) (fun r2 => if r2.2 = 0 then (some (r2.1, (-100000))) else (if x2 = 0 then (gb_bd (f_X11_movesOf sh r2.1 x1) (fun r5 => some (r5.1, r5.2))) else if x2 = 1 then (gb_bd (f_X11_countsOf sh r2.1 x1) (fun r8 => some (r8.1, r8.2))) else if x2 = 2 then (gb_bd (f_X11_gladsOf sh r2.1 x1) (fun r11 => some (r11.1, r11.2))) else if x2 = 3 then (gb_bd (f_X11_isBarred sh r2.1 x1) (fun r14 => if r14.2 = 0 then (some (r14.1, 0)) else (some (r14.1, 1)))) else (some (r2.1, (-100000))))))
set_option maxRecDepth 100000 in
set_option maxHeartbeats 4000000 in
theorem t_X11_asks {Γ : gb_X} {sh : List gb_Sh} {x1 : Int32} {x2 : Int32} {out : gb_G × Int32} (hS : gb_S sh) {g : gb_G} (h : f_X11_asks sh g x1 x2 = some out) : gb_C Γ M_X11_asks 6 0 0 sh g [.ref 77, .int x1, .int x2] (gb_Ri sh out) := by
  refine gb_C.of rfl (Nat.le_of_ble_eq_true rfl) ?_
  refine gb_pick (lv' := [(0, .ref 77), (1, .int x1), (2, .int x2)]) [0, 1, 2] rfl ?_
  unfold f_X11_asks at h
  refine gb_aload_n d_X11_asks_0 rfl ?_
  refine gb_iconst 0 d_X11_asks_1 rfl ?_
  refine gb_puti f_X11_145 (fun h => nomatch h) (hS 77 _ rfl) rfl rfl rfl d_X11_asks_2 ?_
  have h := gb_let_e h
  generalize gb_pi g 77 0 0 = g1 at h ⊢
  refine gb_aload_n d_X11_asks_5 rfl ?_
  refine gb_iload_n d_X11_asks_6 rfl ?_
  obtain ⟨r2, e3, h⟩ := gb_bd_e h
  refine gb_cVi (As := [.int x1]) (rest := []) m_X11_184 (t_X11_isGood (Γ := Γ) hS e3) (hS 77 _ rfl) rfl (Nat.le_of_ble_eq_true rfl) rfl rfl (Nat.le_of_ble_eq_true rfl) d_X11_asks_7 ?_
  refine gb_if_ne 16 d_X11_asks_10 (by decide) (fun hc => ?_) (fun hc => ?_)
  · have h := gb_if hc h
    refine gb_iload_n d_X11_asks_16 rfl ?_
    by_cases hc4 : x2 = 0
    · have h := gb_it hc4 h
      refine gb_tabI 48 hc4 d_X11_asks_17 (by decide) (by decide) rfl (by decide) ?_
      refine gb_aload_n d_X11_asks_48 rfl ?_
      refine gb_iload_n d_X11_asks_49 rfl ?_
      obtain ⟨r5, e6, h⟩ := gb_bd_e h
      refine gb_cVi (As := [.int x1]) (rest := []) m_X11_189 (t_X11_movesOf (Γ := Γ) hS e6) (hS 77 _ rfl) rfl (Nat.le_of_ble_eq_true rfl) rfl rfl (Nat.le_of_ble_eq_true rfl) d_X11_asks_50 ?_
      cases h
      exact gb_iret d_X11_asks_53 rfl ⟨rfl, rfl, rfl⟩
    replace h := gb_if hc4 h
    by_cases hc7 : x2 = 1
    · have h := gb_it hc7 h
      refine gb_tabI 54 hc7 d_X11_asks_17 (by decide) (by decide) rfl (by decide) ?_
      refine gb_aload_n d_X11_asks_54 rfl ?_
      refine gb_iload_n d_X11_asks_55 rfl ?_
      obtain ⟨r8, e9, h⟩ := gb_bd_e h
      refine gb_cVi (As := [.int x1]) (rest := []) m_X11_192 (t_X11_countsOf (Γ := Γ) hS e9) (hS 77 _ rfl) rfl (Nat.le_of_ble_eq_true rfl) rfl rfl (Nat.le_of_ble_eq_true rfl) d_X11_asks_56 ?_
      cases h
      exact gb_iret d_X11_asks_59 rfl ⟨rfl, rfl, rfl⟩
    replace h := gb_if hc7 h
    by_cases hc10 : x2 = 2
    · have h := gb_it hc10 h
      refine gb_tabI 60 hc10 d_X11_asks_17 (by decide) (by decide) rfl (by decide) ?_
      refine gb_aload_n d_X11_asks_60 rfl ?_
      refine gb_iload_n d_X11_asks_61 rfl ?_
      obtain ⟨r11, e12, h⟩ := gb_bd_e h
      refine gb_cVi (As := [.int x1]) (rest := []) m_X11_195 (t_X11_gladsOf (Γ := Γ) hS e12) (hS 77 _ rfl) rfl (Nat.le_of_ble_eq_true rfl) rfl rfl (Nat.le_of_ble_eq_true rfl) d_X11_asks_62 ?_
      cases h
      exact gb_iret d_X11_asks_65 rfl ⟨rfl, rfl, rfl⟩
    replace h := gb_if hc10 h
    by_cases hc13 : x2 = 3
    · have h := gb_it hc13 h
      refine gb_tabI 66 hc13 d_X11_asks_17 (by decide) (by decide) rfl (by decide) ?_
      refine gb_aload_n d_X11_asks_66 rfl ?_
      refine gb_iload_n d_X11_asks_67 rfl ?_
      obtain ⟨r14, e15, h⟩ := gb_bd_e h
      refine gb_cVi (As := [.int x1]) (rest := []) m_X11_198 (t_X11_isBarred (Γ := Γ) hS e15) (hS 77 _ rfl) rfl (Nat.le_of_ble_eq_true rfl) rfl rfl (Nat.le_of_ble_eq_true rfl) d_X11_asks_68 ?_
      refine gb_if_eq 78 d_X11_asks_71 (by decide) (fun hc => ?_) (fun hc => ?_)
      · have h := gb_it hc h
        refine gb_iconst 0 d_X11_asks_78 rfl ?_
        cases h
        exact gb_iret d_X11_asks_79 rfl ⟨rfl, rfl, rfl⟩
      · have h := gb_if hc h
        refine gb_iconst 1 d_X11_asks_74 rfl ?_
        refine gb_goto 79 d_X11_asks_75 (by decide) ?_
        cases h
        exact gb_iret d_X11_asks_79 rfl ⟨rfl, rfl, rfl⟩
    replace h := gb_if hc13 h
    refine gb_tabO 80 d_X11_asks_17 (gb_out 4 (by decide) (by decide) (by decide) (fun i hi => match i, hi with | 0, _ => hc4 | 1, _ => hc7 | 2, _ => hc10 | 3, _ => hc13 | q + 4, h9 => absurd h9 (Nat.not_lt.mpr (Nat.le_add_left _ _)))) (by decide) ?_
    refine gb_ldc (-100000) k_X11_188 d_X11_asks_80 ?_
    cases h
    exact gb_iret d_X11_asks_82 rfl ⟨rfl, rfl, rfl⟩
  · have h := gb_it hc h
    refine gb_ldc (-100000) k_X11_188 d_X11_asks_13 ?_
    cases h
    exact gb_iret d_X11_asks_15 rfl ⟨rfl, rfl, rfl⟩
-- X11_stand
noncomputable def f_X11_stand_29 (sh : List gb_Sh) (g : gb_G) (y1 : Int32) (y2 : Int32) : Option (gb_G × Int32) := gb_bd (f_X11_isGood sh g y1) (fun r2 => if r2.2 = 0 then (gb_bd (f_X11_tell sh r2.1 (-2)) (fun r8 => some (r8.1, r8.2))) else (gb_ck (56 + y1) 5520 (gb_let (gb_pi r2.1 79 ((56 + y1).toNatClampNeg) y2) (fun g5 => gb_bd (f_X11_settled sh g5 0) (fun r6 => some (r6.1, r6.2))))))
noncomputable def f_X11_stand_23 (sh : List gb_Sh) (g : gb_G)  : Option (gb_G × Int32) := gb_bd (f_X11_tell sh g (-1)) (fun r12 => some (r12.1, r12.2))
noncomputable def f_X11_stand (sh : List gb_Sh) (g : gb_G) (x1 : Int32) (x2 : Int32) : Option (gb_G × Int32) := gb_let (gb_pi g 77 0 0) (fun g1 => if x2 = (-1) then (f_X11_stand_29 sh g1 x1 x2) else (gb_bd (f_X11_isGood sh g1 x2) (fun r10 => if r10.2 = 0 then (f_X11_stand_23 sh r10.1 ) else (if x2 = x1 then (f_X11_stand_23 sh r10.1 ) else (f_X11_stand_29 sh r10.1 x1 x2)))))
set_option maxRecDepth 100000 in
set_option maxHeartbeats 4000000 in
theorem t_X11_stand_29 {Γ : gb_X} {sh : List gb_Sh} {out : gb_G × Int32} (hS : gb_S sh) : ∀ (g : gb_G) (y1 : Int32) (y2 : Int32), f_X11_stand_29 sh g y1 y2 = some out → gb_J Γ M_X11_stand 2 (gb_Ri sh out) 0 0 sh g 29 [(0, .ref 77), (1, .int y1), (2, .int y2)] [] := by
  intro g y1 y2 h
  unfold f_X11_stand_29 at h
  refine gb_aload_n d_X11_stand_29 rfl ?_
  refine gb_iload_n d_X11_stand_30 rfl ?_
  obtain ⟨r2, e3, h⟩ := gb_bd_e h
  refine gb_cVi (As := [.int y1]) (rest := []) m_X11_184 (t_X11_isGood (Γ := Γ) hS e3) (hS 77 _ rfl) rfl (Nat.le_of_ble_eq_true rfl) rfl rfl (Nat.le_of_ble_eq_true rfl) d_X11_stand_31 ?_
  refine gb_if_ne 44 d_X11_stand_34 (by decide) (fun hc => ?_) (fun hc => ?_)
  · have h := gb_if hc h
    refine gb_aload_n d_X11_stand_44 rfl ?_
    refine gb_getr (r := 79) f_X11_13 (hS 77 _ rfl) rfl d_X11_stand_45 ?_
    refine gb_bipush 56 d_X11_stand_48 rfl ?_
    refine gb_iload_n d_X11_stand_50 rfl ?_
    refine gb_iadd d_X11_stand_51 ?_
    refine gb_iload_n d_X11_stand_52 rfl ?_
    obtain ⟨hi4, h⟩ := gb_ck_e h
    refine gb_iast_ ((56 + y1).toNatClampNeg) rfl (hS 79 _ rfl) hi4 d_X11_stand_53 ?_
    have h := gb_let_e h
    generalize gb_pi r2.1 79 ((56 + y1).toNatClampNeg) y2 = g5 at h ⊢
    refine gb_aload_n d_X11_stand_54 rfl ?_
    refine gb_iconst 0 d_X11_stand_55 rfl ?_
    obtain ⟨r6, e7, h⟩ := gb_bd_e h
    refine gb_cVi (As := [.int 0]) (rest := []) m_X11_169 (t_X11_settled (Γ := Γ) hS e7) (hS 77 _ rfl) rfl (Nat.le_of_ble_eq_true rfl) rfl rfl (Nat.le_of_ble_eq_true rfl) d_X11_stand_56 ?_
    cases h
    exact gb_iret d_X11_stand_59 rfl ⟨rfl, rfl, rfl⟩
  · have h := gb_it hc h
    refine gb_aload_n d_X11_stand_37 rfl ?_
    refine gb_bipush (-2) d_X11_stand_38 rfl ?_
    obtain ⟨r8, e9, h⟩ := gb_bd_e h
    refine gb_cVi (As := [.int (-2)]) (rest := []) m_X11_154 (t_X11_tell (Γ := Γ) hS e9) (hS 77 _ rfl) rfl (Nat.le_of_ble_eq_true rfl) rfl rfl (Nat.le_of_ble_eq_true rfl) d_X11_stand_40 ?_
    cases h
    exact gb_iret d_X11_stand_43 rfl ⟨rfl, rfl, rfl⟩
set_option maxRecDepth 100000 in
set_option maxHeartbeats 4000000 in
theorem t_X11_stand_23 {Γ : gb_X} {sh : List gb_Sh} {out : gb_G × Int32} (hS : gb_S sh) : ∀ (g : gb_G) , f_X11_stand_23 sh g  = some out → gb_J Γ M_X11_stand 2 (gb_Ri sh out) 0 0 sh g 23 [(0, .ref 77)] [] := by
  intro g  h
  unfold f_X11_stand_23 at h
  refine gb_aload_n d_X11_stand_23 rfl ?_
  refine gb_iconst (-1) d_X11_stand_24 rfl ?_
  obtain ⟨r12, e13, h⟩ := gb_bd_e h
  refine gb_cVi (As := [.int (-1)]) (rest := []) m_X11_154 (t_X11_tell (Γ := Γ) hS e13) (hS 77 _ rfl) rfl (Nat.le_of_ble_eq_true rfl) rfl rfl (Nat.le_of_ble_eq_true rfl) d_X11_stand_25 ?_
  cases h
  exact gb_iret d_X11_stand_28 rfl ⟨rfl, rfl, rfl⟩
set_option maxRecDepth 100000 in
set_option maxHeartbeats 4000000 in
theorem t_X11_stand {Γ : gb_X} {sh : List gb_Sh} {x1 : Int32} {x2 : Int32} {out : gb_G × Int32} (hS : gb_S sh) {g : gb_G} (h : f_X11_stand sh g x1 x2 = some out) : gb_C Γ M_X11_stand 2 0 0 sh g [.ref 77, .int x1, .int x2] (gb_Ri sh out) := by
  refine gb_C.of rfl (Nat.le_of_ble_eq_true rfl) ?_
  refine gb_pick (lv' := [(0, .ref 77), (1, .int x1), (2, .int x2)]) [0, 1, 2] rfl ?_
  unfold f_X11_stand at h
  refine gb_aload_n d_X11_stand_0 rfl ?_
  refine gb_iconst 0 d_X11_stand_1 rfl ?_
  refine gb_puti f_X11_145 (fun h => nomatch h) (hS 77 _ rfl) rfl rfl rfl d_X11_stand_2 ?_
  have h := gb_let_e h
  generalize gb_pi g 77 0 0 = g1 at h ⊢
  refine gb_iload_n d_X11_stand_5 rfl ?_
  refine gb_iconst (-1) d_X11_stand_6 rfl ?_
  refine gb_icmp_eq 29 d_X11_stand_7 (by decide) (fun hc => ?_) (fun hc => ?_)
  · have h := gb_it hc h
    exact t_X11_stand_29 hS  _ x1 x2 h
  · have h := gb_if hc h
    refine gb_aload_n d_X11_stand_10 rfl ?_
    refine gb_iload_n d_X11_stand_11 rfl ?_
    obtain ⟨r10, e11, h⟩ := gb_bd_e h
    refine gb_cVi (As := [.int x2]) (rest := []) m_X11_184 (t_X11_isGood (Γ := Γ) hS e11) (hS 77 _ rfl) rfl (Nat.le_of_ble_eq_true rfl) rfl rfl (Nat.le_of_ble_eq_true rfl) d_X11_stand_12 ?_
    refine gb_if_eq 23 d_X11_stand_15 (by decide) (fun hc => ?_) (fun hc => ?_)
    · have h := gb_it hc h
      refine gb_pick (lv' := [(0, .ref 77)]) [0] rfl ?_
      exact t_X11_stand_23 hS  _  h
    · have h := gb_if hc h
      refine gb_iload_n d_X11_stand_18 rfl ?_
      refine gb_iload_n d_X11_stand_19 rfl ?_
      refine gb_icmp_ne 29 d_X11_stand_20 (by decide) (fun hc => ?_) (fun hc => ?_)
      · have h := gb_if hc h
        exact t_X11_stand_29 hS  _ x1 x2 h
      · have h := gb_it hc h
        refine gb_pick (lv' := [(0, .ref 77)]) [0] rfl ?_
        exact t_X11_stand_23 hS  _  h
-- X11_person
noncomputable def f_X11_person_26 (sh : List gb_Sh) : Nat → gb_G → Int32 → Int32 → Option (gb_G × Int32)
  | 0, _, _, _ => none
  | n + 1, g, y1, y2 => if 8 ≤ y2 then (gb_let (gb_pi g 79 1 ((g.1 79 1) + 1)) (fun g2 => gb_bd (f_X11_tell sh g2 y1) (fun r3 => some (r3.1, r3.2)))) else (gb_ck ((64 + (8 * y1)) + y2) 5520 (gb_let (gb_pi g 79 (((64 + (8 * y1)) + y2).toNatClampNeg) 0) (fun g6 => f_X11_person_26 sh n g6 y1 (y2 + 1))))
noncomputable def f_X11_person (sh : List gb_Sh) (g : gb_G) : Option (gb_G × Int32) := gb_let (gb_pi g 77 0 0) (fun g1 => if (g1.1 79 1) = 5 then (gb_bd (f_X11_tell sh g1 (-5)) (fun r7 => some (r7.1, r7.2))) else (f_X11_person_26 sh gb_N g1 (g1.1 79 1) 0))
set_option maxRecDepth 100000 in
set_option maxHeartbeats 4000000 in
theorem t_X11_person_26 {Γ : gb_X} {sh : List gb_Sh} {out : gb_G × Int32} (hS : gb_S sh) : ∀ (n : Nat) (g : gb_G) (y1 : Int32) (y2 : Int32), f_X11_person_26 sh n g y1 y2 = some out → gb_J Γ M_X11_person 1 (gb_Ri sh out) 0 0 sh g 26 [(0, .ref 77), (1, .int y1), (2, .int y2)] [] := by
  intro n
  induction n with
  | zero => intro g y1 y2 h; cases h
  | succ n ih =>
    intro g y1 y2 h
    rw [f_X11_person_26] at h
    refine gb_iload_n d_X11_person_26 rfl ?_
    refine gb_bipush 8 d_X11_person_27 rfl ?_
    refine gb_icmp_ge 53 d_X11_person_29 (by decide) (fun hc => ?_) (fun hc => ?_)
    · have h := gb_it hc h
      refine gb_aload_n d_X11_person_53 rfl ?_
      refine gb_getr (r := 79) f_X11_13 (hS 77 _ rfl) rfl d_X11_person_54 ?_
      refine gb_iconst 1 d_X11_person_57 rfl ?_
      refine gb_dup2 d_X11_person_58 rfl rfl ?_
      refine gb_iald_ 1 rfl (hS 79 _ rfl) (by unfold vp_in; decide) d_X11_person_59 ?_
      refine gb_iconst 1 d_X11_person_60 rfl ?_
      refine gb_iadd d_X11_person_61 ?_
      refine gb_iast_ 1 rfl (hS 79 _ rfl) (by unfold vp_in; decide) d_X11_person_62 ?_
      have h := gb_let_e h
      generalize gb_pi g 79 1 ((g.1 79 1) + 1) = g2 at h ⊢
      refine gb_aload_n d_X11_person_63 rfl ?_
      refine gb_iload_n d_X11_person_64 rfl ?_
      obtain ⟨r3, e4, h⟩ := gb_bd_e h
      refine gb_cVi (As := [.int y1]) (rest := []) m_X11_154 (t_X11_tell (Γ := Γ) hS e4) (hS 77 _ rfl) rfl (Nat.le_of_ble_eq_true rfl) rfl rfl (Nat.le_of_ble_eq_true rfl) d_X11_person_65 ?_
      cases h
      exact gb_iret d_X11_person_68 rfl ⟨rfl, rfl, rfl⟩
    · have h := gb_if hc h
      refine gb_aload_n d_X11_person_32 rfl ?_
      refine gb_getr (r := 79) f_X11_13 (hS 77 _ rfl) rfl d_X11_person_33 ?_
      refine gb_bipush 64 d_X11_person_36 rfl ?_
      refine gb_bipush 8 d_X11_person_38 rfl ?_
      refine gb_iload_n d_X11_person_40 rfl ?_
      refine gb_imul d_X11_person_41 ?_
      refine gb_iadd d_X11_person_42 ?_
      refine gb_iload_n d_X11_person_43 rfl ?_
      refine gb_iadd d_X11_person_44 ?_
      refine gb_iconst 0 d_X11_person_45 rfl ?_
      obtain ⟨hi5, h⟩ := gb_ck_e h
      refine gb_iast_ (((64 + (8 * y1)) + y2).toNatClampNeg) rfl (hS 79 _ rfl) hi5 d_X11_person_46 ?_
      have h := gb_let_e h
      generalize gb_pi g 79 (((64 + (8 * y1)) + y2).toNatClampNeg) 0 = g6 at h ⊢
      refine gb_iinc (y2 + 1) [(2, .int (y2 + 1)), (0, .ref 77), (1, .int y1)] d_X11_person_47 (Nat.le_of_ble_eq_true rfl) rfl rfl rfl ?_
      refine gb_goto 26 d_X11_person_50 (by decide) ?_
      refine gb_pick (lv' := [(0, .ref 77), (1, .int y1), (2, .int (y2 + 1))]) [1, 2, 0] rfl ?_
      exact ih _ y1 (y2 + 1) h
set_option maxRecDepth 100000 in
set_option maxHeartbeats 4000000 in
theorem t_X11_person {Γ : gb_X} {sh : List gb_Sh} {out : gb_G × Int32} (hS : gb_S sh) {g : gb_G} (h : f_X11_person sh g = some out) : gb_C Γ M_X11_person 1 0 0 sh g [.ref 77] (gb_Ri sh out) := by
  refine gb_C.of rfl (Nat.le_of_ble_eq_true rfl) ?_
  refine gb_pick (lv' := [(0, .ref 77)]) [0] rfl ?_
  unfold f_X11_person at h
  refine gb_aload_n d_X11_person_0 rfl ?_
  refine gb_iconst 0 d_X11_person_1 rfl ?_
  refine gb_puti f_X11_145 (fun h => nomatch h) (hS 77 _ rfl) rfl rfl rfl d_X11_person_2 ?_
  have h := gb_let_e h
  generalize gb_pi g 77 0 0 = g1 at h ⊢
  refine gb_aload_n d_X11_person_5 rfl ?_
  refine gb_getr (r := 79) f_X11_13 (hS 77 _ rfl) rfl d_X11_person_6 ?_
  refine gb_iconst 1 d_X11_person_9 rfl ?_
  refine gb_iald_ 1 rfl (hS 79 _ rfl) (by unfold vp_in; decide) d_X11_person_10 ?_
  refine gb_istore_n [(1, .int (g1.1 79 1)), (0, .ref 77)] d_X11_person_11 (Nat.le_of_ble_eq_true rfl) rfl ?_
  refine gb_iload_n d_X11_person_12 rfl ?_
  refine gb_iconst 5 d_X11_person_13 rfl ?_
  refine gb_icmp_ne 24 d_X11_person_14 (by decide) (fun hc => ?_) (fun hc => ?_)
  · have h := gb_if hc h
    refine gb_iconst 0 d_X11_person_24 rfl ?_
    refine gb_istore_n [(2, .int 0), (1, .int (g1.1 79 1)), (0, .ref 77)] d_X11_person_25 (Nat.le_of_ble_eq_true rfl) rfl ?_
    refine gb_pick (lv' := [(0, .ref 77), (1, .int (g1.1 79 1)), (2, .int 0)]) [2, 1, 0] rfl ?_
    exact t_X11_person_26 hS  gb_N _ (g1.1 79 1) 0 h
  · have h := gb_it hc h
    refine gb_aload_n d_X11_person_17 rfl ?_
    refine gb_bipush (-5) d_X11_person_18 rfl ?_
    obtain ⟨r7, e8, h⟩ := gb_bd_e h
    refine gb_cVi (As := [.int (-5)]) (rest := []) m_X11_154 (t_X11_tell (Γ := Γ) hS e8) (hS 77 _ rfl) rfl (Nat.le_of_ble_eq_true rfl) rfl rfl (Nat.le_of_ble_eq_true rfl) d_X11_person_20 ?_
    cases h
    exact gb_iret d_X11_person_23 rfl ⟨rfl, rfl, rfl⟩
-- X11_own
noncomputable def f_X11_own_56 (sh : List gb_Sh) (g : gb_G)  : Option (gb_G × Int32) := gb_bd (f_X11_tell sh g (-2)) (fun r6 => some (r6.1, r6.2))
noncomputable def f_X11_own (sh : List gb_Sh) (g : gb_G) (x1 : Int32) (x2 : Int32) (x3 : Int32) : Option (gb_G × Int32) := gb_let (gb_pi g 77 0 0) (fun g1 => gb_bd (f_X11_in sh g1 x3.toInt64 0 9) (fun r2 => if r2.2 = 0 then (gb_bd (f_X11_tell sh r2.1 (-1)) (fun r12 => some (r12.1, r12.2))) else (gb_bd (f_X11_isPerson sh r2.1 x1) (fun r4 => if r4.2 = 0 then (f_X11_own_56 sh r4.1 ) else (gb_bd (f_X11_isGood sh r4.1 x2) (fun r8 => if r8.2 = 0 then (f_X11_own_56 sh r8.1 ) else (gb_bd (f_X11_change sh r8.1 ((64 + (8 * x1)) + x2) x3) (fun r10 => some (r10.1, r10.2)))))))))
set_option maxRecDepth 100000 in
set_option maxHeartbeats 4000000 in
theorem t_X11_own_56 {Γ : gb_X} {sh : List gb_Sh} {out : gb_G × Int32} (hS : gb_S sh) : ∀ (g : gb_G) , f_X11_own_56 sh g  = some out → gb_J Γ M_X11_own 2 (gb_Ri sh out) 0 0 sh g 56 [(0, .ref 77)] [] := by
  intro g  h
  unfold f_X11_own_56 at h
  refine gb_aload_n d_X11_own_56 rfl ?_
  refine gb_bipush (-2) d_X11_own_57 rfl ?_
  obtain ⟨r6, e7, h⟩ := gb_bd_e h
  refine gb_cVi (As := [.int (-2)]) (rest := []) m_X11_154 (t_X11_tell (Γ := Γ) hS e7) (hS 77 _ rfl) rfl (Nat.le_of_ble_eq_true rfl) rfl rfl (Nat.le_of_ble_eq_true rfl) d_X11_own_59 ?_
  cases h
  exact gb_iret d_X11_own_62 rfl ⟨rfl, rfl, rfl⟩
set_option maxRecDepth 100000 in
set_option maxHeartbeats 4000000 in
theorem t_X11_own {Γ : gb_X} {sh : List gb_Sh} {x1 : Int32} {x2 : Int32} {x3 : Int32} {out : gb_G × Int32} (hS : gb_S sh) {g : gb_G} (h : f_X11_own sh g x1 x2 x3 = some out) : gb_C Γ M_X11_own 2 0 0 sh g [.ref 77, .int x1, .int x2, .int x3] (gb_Ri sh out) := by
  refine gb_C.of rfl (Nat.le_of_ble_eq_true rfl) ?_
  refine gb_pick (lv' := [(0, .ref 77), (1, .int x1), (2, .int x2), (3, .int x3)]) [0, 1, 2, 3] rfl ?_
  unfold f_X11_own at h
  refine gb_aload_n d_X11_own_0 rfl ?_
  refine gb_iconst 0 d_X11_own_1 rfl ?_
  refine gb_puti f_X11_145 (fun h => nomatch h) (hS 77 _ rfl) rfl rfl rfl d_X11_own_2 ?_
  have h := gb_let_e h
  generalize gb_pi g 77 0 0 = g1 at h ⊢
  refine gb_iload_n d_X11_own_5 rfl ?_
  refine gb_i2l d_X11_own_6 ?_
  refine gb_lconst 0 d_X11_own_7 rfl ?_
  refine gb_ldc2 9 k_X11_176 d_X11_own_8 ?_
  obtain ⟨r2, e3, h⟩ := gb_bd_e h
  refine gb_cSi (As := [.long x3.toInt64, .long 0, .long 9]) (rest := []) m_X11_165 (t_X11_in (Γ := Γ) hS e3) (Nat.le_of_ble_eq_true rfl) rfl rfl (Nat.le_of_ble_eq_true rfl) d_X11_own_11 ?_
  refine gb_if_ne 23 d_X11_own_14 (by decide) (fun hc => ?_) (fun hc => ?_)
  · have h := gb_if hc h
    refine gb_aload_n d_X11_own_23 rfl ?_
    refine gb_iload_n d_X11_own_24 rfl ?_
    obtain ⟨r4, e5, h⟩ := gb_bd_e h
    refine gb_cVi (As := [.int x1]) (rest := []) m_X11_201 (t_X11_isPerson (Γ := Γ) hS e5) (hS 77 _ rfl) rfl (Nat.le_of_ble_eq_true rfl) rfl rfl (Nat.le_of_ble_eq_true rfl) d_X11_own_25 ?_
    refine gb_if_eq 56 d_X11_own_28 (by decide) (fun hc => ?_) (fun hc => ?_)
    · have h := gb_it hc h
      refine gb_pick (lv' := [(0, .ref 77)]) [0] rfl ?_
      exact t_X11_own_56 hS  _  h
    · have h := gb_if hc h
      refine gb_aload_n d_X11_own_31 rfl ?_
      refine gb_iload_n d_X11_own_32 rfl ?_
      obtain ⟨r8, e9, h⟩ := gb_bd_e h
      refine gb_cVi (As := [.int x2]) (rest := []) m_X11_184 (t_X11_isGood (Γ := Γ) hS e9) (hS 77 _ rfl) rfl (Nat.le_of_ble_eq_true rfl) rfl rfl (Nat.le_of_ble_eq_true rfl) d_X11_own_33 ?_
      refine gb_if_eq 56 d_X11_own_36 (by decide) (fun hc => ?_) (fun hc => ?_)
      · have h := gb_it hc h
        refine gb_pick (lv' := [(0, .ref 77)]) [0] rfl ?_
        exact t_X11_own_56 hS  _  h
      · have h := gb_if hc h
        refine gb_aload_n d_X11_own_39 rfl ?_
        refine gb_bipush 64 d_X11_own_40 rfl ?_
        refine gb_bipush 8 d_X11_own_42 rfl ?_
        refine gb_iload_n d_X11_own_44 rfl ?_
        refine gb_imul d_X11_own_45 ?_
        refine gb_iadd d_X11_own_46 ?_
        refine gb_iload_n d_X11_own_47 rfl ?_
        refine gb_iadd d_X11_own_48 ?_
        refine gb_iload_n d_X11_own_49 rfl ?_
        obtain ⟨r10, e11, h⟩ := gb_bd_e h
        refine gb_cVi (As := [.int ((64 + (8 * x1)) + x2), .int x3]) (rest := []) m_X11_204 (t_X11_change (Γ := Γ) hS e11) (hS 77 _ rfl) rfl (Nat.le_of_ble_eq_true rfl) rfl rfl (Nat.le_of_ble_eq_true rfl) d_X11_own_50 ?_
        refine gb_goto 62 d_X11_own_53 (by decide) ?_
        cases h
        exact gb_iret d_X11_own_62 rfl ⟨rfl, rfl, rfl⟩
  · have h := gb_it hc h
    refine gb_aload_n d_X11_own_17 rfl ?_
    refine gb_iconst (-1) d_X11_own_18 rfl ?_
    obtain ⟨r12, e13, h⟩ := gb_bd_e h
    refine gb_cVi (As := [.int (-1)]) (rest := []) m_X11_154 (t_X11_tell (Γ := Γ) hS e13) (hS 77 _ rfl) rfl (Nat.le_of_ble_eq_true rfl) rfl rfl (Nat.le_of_ble_eq_true rfl) d_X11_own_19 ?_
    cases h
    exact gb_iret d_X11_own_22 rfl ⟨rfl, rfl, rfl⟩
-- X11_terms
noncomputable def f_X11_terms_60 (sh : List gb_Sh) (g : gb_G) (y1 : Int32) (y2 : Int32) (z0 : Int32) : Option (gb_G × Int32) := if z0 = 0 then (gb_bd (f_X11_tell sh g (-1)) (fun r5 => some (r5.1, r5.2))) else (gb_let (gb_pi g 77 8 0) (fun g2 => gb_bd (f_X11_change sh g2 (5 + y1) y2) (fun r3 => some (r3.1, r3.2))))
noncomputable def f_X11_terms (sh : List gb_Sh) (g : gb_G) (x1 : Int32) (x2 : Int32) : Option (gb_G × Int32) := gb_let (gb_pi g 77 0 0) (fun g1 => if x1 = 0 then (gb_bd (f_X11_in sh g1 x2.toInt64 0 999) (fun r11 => f_X11_terms_60 sh r11.1 x1 x2 r11.2)) else (if x1 = 1 then (gb_bd (f_X11_in sh g1 x2.toInt64 0 10) (fun r9 => f_X11_terms_60 sh r9.1 x1 x2 r9.2)) else (if x1 = 2 then (gb_bd (f_X11_in sh g1 x2.toInt64 0 9) (fun r7 => if r7.2 = 0 then (f_X11_terms_60 sh r7.1 x1 x2 0) else (f_X11_terms_60 sh r7.1 x1 x2 1))) else (f_X11_terms_60 sh g1 x1 x2 0))))
set_option maxRecDepth 100000 in
set_option maxHeartbeats 4000000 in
theorem t_X11_terms_60 {Γ : gb_X} {sh : List gb_Sh} {out : gb_G × Int32} (hS : gb_S sh) : ∀ (g : gb_G) (y1 : Int32) (y2 : Int32) (z0 : Int32), f_X11_terms_60 sh g y1 y2 z0 = some out → gb_J Γ M_X11_terms 1 (gb_Ri sh out) 0 0 sh g 60 [(0, .ref 77), (1, .int y1), (2, .int y2)] [.int z0] := by
  intro g y1 y2 z0 h
  unfold f_X11_terms_60 at h
  refine gb_istore_n [(3, .int z0), (0, .ref 77), (1, .int y1), (2, .int y2)] d_X11_terms_60 (Nat.le_of_ble_eq_true rfl) rfl ?_
  refine gb_iload_n d_X11_terms_61 rfl ?_
  refine gb_if_ne 71 d_X11_terms_62 (by decide) (fun hc => ?_) (fun hc => ?_)
  · have h := gb_if hc h
    refine gb_aload_n d_X11_terms_71 rfl ?_
    refine gb_iconst 0 d_X11_terms_72 rfl ?_
    refine gb_puti f_X11_151 (fun h => nomatch h) (hS 77 _ rfl) rfl rfl rfl d_X11_terms_73 ?_
    have h := gb_let_e h
    generalize gb_pi g 77 8 0 = g2 at h ⊢
    refine gb_aload_n d_X11_terms_76 rfl ?_
    refine gb_iconst 5 d_X11_terms_77 rfl ?_
    refine gb_iload_n d_X11_terms_78 rfl ?_
    refine gb_iadd d_X11_terms_79 ?_
    refine gb_iload_n d_X11_terms_80 rfl ?_
    obtain ⟨r3, e4, h⟩ := gb_bd_e h
    refine gb_cVi (As := [.int (5 + y1), .int y2]) (rest := []) m_X11_204 (t_X11_change (Γ := Γ) hS e4) (hS 77 _ rfl) rfl (Nat.le_of_ble_eq_true rfl) rfl rfl (Nat.le_of_ble_eq_true rfl) d_X11_terms_81 ?_
    cases h
    exact gb_iret d_X11_terms_84 rfl ⟨rfl, rfl, rfl⟩
  · have h := gb_it hc h
    refine gb_aload_n d_X11_terms_65 rfl ?_
    refine gb_iconst (-1) d_X11_terms_66 rfl ?_
    obtain ⟨r5, e6, h⟩ := gb_bd_e h
    refine gb_cVi (As := [.int (-1)]) (rest := []) m_X11_154 (t_X11_tell (Γ := Γ) hS e6) (hS 77 _ rfl) rfl (Nat.le_of_ble_eq_true rfl) rfl rfl (Nat.le_of_ble_eq_true rfl) d_X11_terms_67 ?_
    cases h
    exact gb_iret d_X11_terms_70 rfl ⟨rfl, rfl, rfl⟩
set_option maxRecDepth 100000 in
set_option maxHeartbeats 4000000 in
theorem t_X11_terms {Γ : gb_X} {sh : List gb_Sh} {x1 : Int32} {x2 : Int32} {out : gb_G × Int32} (hS : gb_S sh) {g : gb_G} (h : f_X11_terms sh g x1 x2 = some out) : gb_C Γ M_X11_terms 1 0 0 sh g [.ref 77, .int x1, .int x2] (gb_Ri sh out) := by
  refine gb_C.of rfl (Nat.le_of_ble_eq_true rfl) ?_
  refine gb_pick (lv' := [(0, .ref 77), (1, .int x1), (2, .int x2)]) [0, 1, 2] rfl ?_
  unfold f_X11_terms at h
  refine gb_aload_n d_X11_terms_0 rfl ?_
  refine gb_iconst 0 d_X11_terms_1 rfl ?_
  refine gb_puti f_X11_145 (fun h => nomatch h) (hS 77 _ rfl) rfl rfl rfl d_X11_terms_2 ?_
  have h := gb_let_e h
  generalize gb_pi g 77 0 0 = g1 at h ⊢
  refine gb_iload_n d_X11_terms_5 rfl ?_
  refine gb_if_ne 21 d_X11_terms_6 (by decide) (fun hc => ?_) (fun hc => ?_)
  · have h := gb_if hc h
    refine gb_iload_n d_X11_terms_21 rfl ?_
    refine gb_iconst 1 d_X11_terms_22 rfl ?_
    refine gb_icmp_ne 38 d_X11_terms_23 (by decide) (fun hc => ?_) (fun hc => ?_)
    · have h := gb_if hc h
      refine gb_iload_n d_X11_terms_38 rfl ?_
      refine gb_iconst 2 d_X11_terms_39 rfl ?_
      refine gb_icmp_ne 59 d_X11_terms_40 (by decide) (fun hc => ?_) (fun hc => ?_)
      · have h := gb_if hc h
        refine gb_iconst 0 d_X11_terms_59 rfl ?_
        exact t_X11_terms_60 hS  _ x1 x2 0 h
      · have h := gb_it hc h
        refine gb_iload_n d_X11_terms_43 rfl ?_
        refine gb_i2l d_X11_terms_44 ?_
        refine gb_lconst 0 d_X11_terms_45 rfl ?_
        refine gb_ldc2 9 k_X11_176 d_X11_terms_46 ?_
        obtain ⟨r7, e8, h⟩ := gb_bd_e h
        refine gb_cSi (As := [.long x2.toInt64, .long 0, .long 9]) (rest := []) m_X11_165 (t_X11_in (Γ := Γ) hS e8) (Nat.le_of_ble_eq_true rfl) rfl rfl (Nat.le_of_ble_eq_true rfl) d_X11_terms_49 ?_
        refine gb_if_eq 59 d_X11_terms_52 (by decide) (fun hc => ?_) (fun hc => ?_)
        · have h := gb_it hc h
          refine gb_iconst 0 d_X11_terms_59 rfl ?_
          exact t_X11_terms_60 hS  _ x1 x2 0 h
        · have h := gb_if hc h
          refine gb_iconst 1 d_X11_terms_55 rfl ?_
          refine gb_goto 60 d_X11_terms_56 (by decide) ?_
          exact t_X11_terms_60 hS  _ x1 x2 1 h
    · have h := gb_it hc h
      refine gb_iload_n d_X11_terms_26 rfl ?_
      refine gb_i2l d_X11_terms_27 ?_
      refine gb_lconst 0 d_X11_terms_28 rfl ?_
      refine gb_ldc2 10 k_X11_210 d_X11_terms_29 ?_
      obtain ⟨r9, e10, h⟩ := gb_bd_e h
      refine gb_cSi (As := [.long x2.toInt64, .long 0, .long 10]) (rest := []) m_X11_165 (t_X11_in (Γ := Γ) hS e10) (Nat.le_of_ble_eq_true rfl) rfl rfl (Nat.le_of_ble_eq_true rfl) d_X11_terms_32 ?_
      refine gb_goto 60 d_X11_terms_35 (by decide) ?_
      exact t_X11_terms_60 hS  _ x1 x2 r9.2 h
  · have h := gb_it hc h
    refine gb_iload_n d_X11_terms_9 rfl ?_
    refine gb_i2l d_X11_terms_10 ?_
    refine gb_lconst 0 d_X11_terms_11 rfl ?_
    refine gb_ldc2 999 k_X11_208 d_X11_terms_12 ?_
    obtain ⟨r11, e12, h⟩ := gb_bd_e h
    refine gb_cSi (As := [.long x2.toInt64, .long 0, .long 999]) (rest := []) m_X11_165 (t_X11_in (Γ := Γ) hS e12) (Nat.le_of_ble_eq_true rfl) rfl rfl (Nat.le_of_ble_eq_true rfl) d_X11_terms_15 ?_
    refine gb_goto 60 d_X11_terms_18 (by decide) ?_
    exact t_X11_terms_60 hS  _ x1 x2 r11.2 h
-- X11_row
noncomputable def f_X11_row_91 (sh : List gb_Sh) (K101 : gb_G → Int32 → Int32 → Int32 → Option (gb_G × Int32)) (g : gb_G) (y1 : Int32) (y2 : Int32) (y3 : Int32) : Option (gb_G × Int32) := gb_let (gb_pi g 77 11 ((g.1 77 11) + 1)) (fun g6 => K101 g6 y1 y2 y3)
noncomputable def f_X11_row_101 (sh : List gb_Sh) (K35 : gb_G → Int32 → Int32 → Int32 → Option (gb_G × Int32)) (g : gb_G) (y1 : Int32) (y2 : Int32) (y3 : Int32) : Option (gb_G × Int32) := K35 g y1 y2 (y3 + 4)
noncomputable def f_X11_row_35 (sh : List gb_Sh) : Nat → gb_G → Int32 → Int32 → Int32 → Option (gb_G × Int32)
  | 0, _, _, _, _ => none
  | n + 1, g, y1, y2, y3 => if y1 ≤ y3 then (gb_bd (f_X11_settled sh g y2) (fun r4 => some (r4.1, r4.2))) else (if y1 ≤ (y3 + 3) then (f_X11_row_91 sh (fun w w0 w1 w2 => f_X11_row_101 sh (fun w w0 w1 w2 => f_X11_row_35 sh n w w0 w1 w2) w w0 w1 w2) g y1 y2 y3) else (gb_ck y3 400 (gb_ck (y3 + 1) 400 (gb_ck (y3 + 2) 400 (gb_ck (y3 + 3) 400 (gb_bd (f_X11_come sh g (g.1 86 y3.toNatClampNeg) (g.1 86 ((y3 + 1).toNatClampNeg)) (g.1 86 ((y3 + 2).toNatClampNeg)) (g.1 86 ((y3 + 3).toNatClampNeg)) 0) (fun r11 => if r11.2 < 0 then (f_X11_row_91 sh (fun w w0 w1 w2 => f_X11_row_101 sh (fun w w0 w1 w2 => f_X11_row_35 sh n w w0 w1 w2) w w0 w1 w2) r11.1 y1 y2 y3) else (f_X11_row_101 sh (fun w w0 w1 w2 => f_X11_row_35 sh n w w0 w1 w2) r11.1 y1 (y2 + 1) y3))))))))
noncomputable def f_X11_row (sh : List gb_Sh) (g : gb_G) : Option (gb_G × Int32) := gb_let (gb_pi g 77 0 0) (fun g1 => gb_let (gb_pi g1 77 13 0) (fun g2 => if (g1.1 77 13) = 0 then (gb_bd (f_X11_tell sh g2 (-6)) (fun r13 => some (r13.1, r13.2))) else (gb_let (gb_pi g2 77 11 0) (fun g3 => f_X11_row_35 sh gb_N g3 (g1.1 77 13) 0 0))))
set_option maxRecDepth 100000 in
set_option maxHeartbeats 4000000 in
theorem t_X11_row_91 {Γ : gb_X} {sh : List gb_Sh} {out : gb_G × Int32} (hS : gb_S sh) {K101 : gb_G → Int32 → Int32 → Int32 → Option (gb_G × Int32)} (hK101 : ∀ (g : gb_G) (y1 : Int32) (y2 : Int32) (y3 : Int32), K101 g y1 y2 y3 = some out → gb_J Γ M_X11_row 2 (gb_Ri sh out) 0 0 sh g 101 [(0, .ref 77), (1, .int y1), (2, .int y2), (3, .int y3)] []) : ∀ (g : gb_G) (y1 : Int32) (y2 : Int32) (y3 : Int32), f_X11_row_91 sh K101 g y1 y2 y3 = some out → gb_J Γ M_X11_row 2 (gb_Ri sh out) 0 0 sh g 91 [(0, .ref 77), (1, .int y1), (2, .int y2), (3, .int y3)] [] := by
  intro g y1 y2 y3 h
  unfold f_X11_row_91 at h
  refine gb_aload_n d_X11_row_91 rfl ?_
  refine gb_dup d_X11_row_92 rfl ?_
  refine gb_geti f_X11_215 (hS 77 _ rfl) rfl d_X11_row_93 ?_
  refine gb_iconst 1 d_X11_row_96 rfl ?_
  refine gb_iadd d_X11_row_97 ?_
  refine gb_puti f_X11_215 (fun h => nomatch h) (hS 77 _ rfl) rfl rfl rfl d_X11_row_98 ?_
  have h := gb_let_e h
  generalize gb_pi g 77 11 ((g.1 77 11) + 1) = g6 at h ⊢
  exact hK101 _ y1 y2 y3 h
set_option maxRecDepth 100000 in
set_option maxHeartbeats 4000000 in
theorem t_X11_row_101 {Γ : gb_X} {sh : List gb_Sh} {out : gb_G × Int32} (hS : gb_S sh) {K35 : gb_G → Int32 → Int32 → Int32 → Option (gb_G × Int32)} (hK35 : ∀ (g : gb_G) (y1 : Int32) (y2 : Int32) (y3 : Int32), K35 g y1 y2 y3 = some out → gb_J Γ M_X11_row 2 (gb_Ri sh out) 0 0 sh g 35 [(0, .ref 77), (1, .int y1), (2, .int y2), (3, .int y3)] []) : ∀ (g : gb_G) (y1 : Int32) (y2 : Int32) (y3 : Int32), f_X11_row_101 sh K35 g y1 y2 y3 = some out → gb_J Γ M_X11_row 2 (gb_Ri sh out) 0 0 sh g 101 [(0, .ref 77), (1, .int y1), (2, .int y2), (3, .int y3)] [] := by
  intro g y1 y2 y3 h
  unfold f_X11_row_101 at h
  refine gb_iinc (y3 + 4) [(3, .int (y3 + 4)), (0, .ref 77), (1, .int y1), (2, .int y2)] d_X11_row_101 (Nat.le_of_ble_eq_true rfl) rfl rfl rfl ?_
  refine gb_goto 35 d_X11_row_104 (by decide) ?_
  refine gb_pick (lv' := [(0, .ref 77), (1, .int y1), (2, .int y2), (3, .int (y3 + 4))]) [1, 2, 3, 0] rfl ?_
  exact hK35 _ y1 y2 (y3 + 4) h
set_option maxRecDepth 100000 in
set_option maxHeartbeats 4000000 in
theorem t_X11_row_35 {Γ : gb_X} {sh : List gb_Sh} {out : gb_G × Int32} (hS : gb_S sh) : ∀ (n : Nat) (g : gb_G) (y1 : Int32) (y2 : Int32) (y3 : Int32), f_X11_row_35 sh n g y1 y2 y3 = some out → gb_J Γ M_X11_row 2 (gb_Ri sh out) 0 0 sh g 35 [(0, .ref 77), (1, .int y1), (2, .int y2), (3, .int y3)] [] := by
  intro n
  induction n with
  | zero => intro g y1 y2 y3 h; cases h
  | succ n ih =>
    intro g y1 y2 y3 h
    rw [f_X11_row_35] at h
    refine gb_iload_n d_X11_row_35 rfl ?_
    refine gb_iload_n d_X11_row_36 rfl ?_
    refine gb_icmp_ge 107 d_X11_row_37 (by decide) (fun hc => ?_) (fun hc => ?_)
    · have h := gb_it hc h
      refine gb_aload_n d_X11_row_107 rfl ?_
      refine gb_iload_n d_X11_row_108 rfl ?_
      obtain ⟨r4, e5, h⟩ := gb_bd_e h
      refine gb_cVi (As := [.int y2]) (rest := []) m_X11_169 (t_X11_settled (Γ := Γ) hS e5) (hS 77 _ rfl) rfl (Nat.le_of_ble_eq_true rfl) rfl rfl (Nat.le_of_ble_eq_true rfl) d_X11_row_109 ?_
      cases h
      exact gb_iret d_X11_row_112 rfl ⟨rfl, rfl, rfl⟩
    · have h := gb_if hc h
      refine gb_iload_n d_X11_row_40 rfl ?_
      refine gb_iconst 3 d_X11_row_41 rfl ?_
      refine gb_iadd d_X11_row_42 ?_
      refine gb_iload_n d_X11_row_43 rfl ?_
      refine gb_icmp_ge 91 d_X11_row_44 (by decide) (fun hc => ?_) (fun hc => ?_)
      · have h := gb_it hc h
        exact t_X11_row_91 hS (fun w w0 w1 w2 hw => t_X11_row_101 hS (fun w w0 w1 w2 hw => ih w w0 w1 w2 hw) w w0 w1 w2 hw) _ y1 y2 y3 h
      · have h := gb_if hc h
        refine gb_aload_n d_X11_row_47 rfl ?_
        refine gb_aload_n d_X11_row_48 rfl ?_
        refine gb_getr (r := 86) f_X11_35 (hS 77 _ rfl) rfl d_X11_row_49 ?_
        refine gb_iload_n d_X11_row_52 rfl ?_
        obtain ⟨hi7, h⟩ := gb_ck_e h
        refine gb_iald_ y3.toNatClampNeg rfl (hS 86 _ rfl) hi7 d_X11_row_53 ?_
        refine gb_aload_n d_X11_row_54 rfl ?_
        refine gb_getr (r := 86) f_X11_35 (hS 77 _ rfl) rfl d_X11_row_55 ?_
        refine gb_iload_n d_X11_row_58 rfl ?_
        refine gb_iconst 1 d_X11_row_59 rfl ?_
        refine gb_iadd d_X11_row_60 ?_
        obtain ⟨hi8, h⟩ := gb_ck_e h
        refine gb_iald_ ((y3 + 1).toNatClampNeg) rfl (hS 86 _ rfl) hi8 d_X11_row_61 ?_
        refine gb_aload_n d_X11_row_62 rfl ?_
        refine gb_getr (r := 86) f_X11_35 (hS 77 _ rfl) rfl d_X11_row_63 ?_
        refine gb_iload_n d_X11_row_66 rfl ?_
        refine gb_iconst 2 d_X11_row_67 rfl ?_
        refine gb_iadd d_X11_row_68 ?_
        obtain ⟨hi9, h⟩ := gb_ck_e h
        refine gb_iald_ ((y3 + 2).toNatClampNeg) rfl (hS 86 _ rfl) hi9 d_X11_row_69 ?_
        refine gb_aload_n d_X11_row_70 rfl ?_
        refine gb_getr (r := 86) f_X11_35 (hS 77 _ rfl) rfl d_X11_row_71 ?_
        refine gb_iload_n d_X11_row_74 rfl ?_
        refine gb_iconst 3 d_X11_row_75 rfl ?_
        refine gb_iadd d_X11_row_76 ?_
        obtain ⟨hi10, h⟩ := gb_ck_e h
        refine gb_iald_ ((y3 + 3).toNatClampNeg) rfl (hS 86 _ rfl) hi10 d_X11_row_77 ?_
        refine gb_iconst 0 d_X11_row_78 rfl ?_
        obtain ⟨r11, e12, h⟩ := gb_bd_e h
        refine gb_cVi (As := [.int (g.1 86 y3.toNatClampNeg), .int (g.1 86 ((y3 + 1).toNatClampNeg)), .int (g.1 86 ((y3 + 2).toNatClampNeg)), .int (g.1 86 ((y3 + 3).toNatClampNeg)), .int 0]) (rest := []) m_X11_180 (t_X11_come (Γ := Γ) hS e12) (hS 77 _ rfl) rfl (Nat.le_of_ble_eq_true rfl) rfl rfl (Nat.le_of_ble_eq_true rfl) d_X11_row_79 ?_
        refine gb_if_lt 91 d_X11_row_82 (by decide) (fun hc => ?_) (fun hc => ?_)
        · have h := gb_it hc h
          exact t_X11_row_91 hS (fun w w0 w1 w2 hw => t_X11_row_101 hS (fun w w0 w1 w2 hw => ih w w0 w1 w2 hw) w w0 w1 w2 hw) _ y1 y2 y3 h
        · have h := gb_if hc h
          refine gb_iinc (y2 + 1) [(2, .int (y2 + 1)), (0, .ref 77), (1, .int y1), (3, .int y3)] d_X11_row_85 (Nat.le_of_ble_eq_true rfl) rfl rfl rfl ?_
          refine gb_goto 101 d_X11_row_88 (by decide) ?_
          refine gb_pick (lv' := [(0, .ref 77), (1, .int y1), (2, .int (y2 + 1)), (3, .int y3)]) [1, 2, 0, 3] rfl ?_
          exact t_X11_row_101 hS (fun w w0 w1 w2 hw => ih w w0 w1 w2 hw) _ y1 (y2 + 1) y3 h
set_option maxRecDepth 100000 in
set_option maxHeartbeats 4000000 in
theorem t_X11_row {Γ : gb_X} {sh : List gb_Sh} {out : gb_G × Int32} (hS : gb_S sh) {g : gb_G} (h : f_X11_row sh g = some out) : gb_C Γ M_X11_row 2 0 0 sh g [.ref 77] (gb_Ri sh out) := by
  refine gb_C.of rfl (Nat.le_of_ble_eq_true rfl) ?_
  refine gb_pick (lv' := [(0, .ref 77)]) [0] rfl ?_
  unfold f_X11_row at h
  refine gb_aload_n d_X11_row_0 rfl ?_
  refine gb_iconst 0 d_X11_row_1 rfl ?_
  refine gb_puti f_X11_145 (fun h => nomatch h) (hS 77 _ rfl) rfl rfl rfl d_X11_row_2 ?_
  have h := gb_let_e h
  generalize gb_pi g 77 0 0 = g1 at h ⊢
  refine gb_aload_n d_X11_row_5 rfl ?_
  refine gb_geti f_X11_212 (hS 77 _ rfl) rfl d_X11_row_6 ?_
  refine gb_istore_n [(1, .int (g1.1 77 13)), (0, .ref 77)] d_X11_row_9 (Nat.le_of_ble_eq_true rfl) rfl ?_
  refine gb_aload_n d_X11_row_10 rfl ?_
  refine gb_iconst 0 d_X11_row_11 rfl ?_
  refine gb_puti f_X11_212 (fun h => nomatch h) (hS 77 _ rfl) rfl rfl rfl d_X11_row_12 ?_
  have h := gb_let_e h
  generalize gb_pi g1 77 13 0 = g2 at h ⊢
  refine gb_iload_n d_X11_row_15 rfl ?_
  refine gb_if_ne 26 d_X11_row_16 (by decide) (fun hc => ?_) (fun hc => ?_)
  · have h := gb_if hc h
    refine gb_aload_n d_X11_row_26 rfl ?_
    refine gb_iconst 0 d_X11_row_27 rfl ?_
    refine gb_puti f_X11_215 (fun h => nomatch h) (hS 77 _ rfl) rfl rfl rfl d_X11_row_28 ?_
    have h := gb_let_e h
    generalize gb_pi g2 77 11 0 = g3 at h ⊢
    refine gb_iconst 0 d_X11_row_31 rfl ?_
    refine gb_istore_n [(2, .int 0), (1, .int (g1.1 77 13)), (0, .ref 77)] d_X11_row_32 (Nat.le_of_ble_eq_true rfl) rfl ?_
    refine gb_iconst 0 d_X11_row_33 rfl ?_
    refine gb_istore_n [(3, .int 0), (2, .int 0), (1, .int (g1.1 77 13)), (0, .ref 77)] d_X11_row_34 (Nat.le_of_ble_eq_true rfl) rfl ?_
    refine gb_pick (lv' := [(0, .ref 77), (1, .int (g1.1 77 13)), (2, .int 0), (3, .int 0)]) [3, 2, 1, 0] rfl ?_
    exact t_X11_row_35 hS  gb_N _ (g1.1 77 13) 0 0 h
  · have h := gb_it hc h
    refine gb_aload_n d_X11_row_19 rfl ?_
    refine gb_bipush (-6) d_X11_row_20 rfl ?_
    obtain ⟨r13, e14, h⟩ := gb_bd_e h
    refine gb_cVi (As := [.int (-6)]) (rest := []) m_X11_154 (t_X11_tell (Γ := Γ) hS e14) (hS 77 _ rfl) rfl (Nat.le_of_ble_eq_true rfl) rfl rfl (Nat.le_of_ble_eq_true rfl) d_X11_row_22 ?_
    cases h
    exact gb_iret d_X11_row_25 rfl ⟨rfl, rfl, rfl⟩
-- X11_commas
noncomputable def f_X11_commas (sh : List gb_Sh) (g : gb_G) : Option (gb_G × Int32) := gb_let (gb_pi g 77 0 0) (fun g1 => some (g1, (g1.1 77 11)))
set_option maxRecDepth 100000 in
set_option maxHeartbeats 4000000 in
theorem t_X11_commas {Γ : gb_X} {sh : List gb_Sh} {out : gb_G × Int32} (hS : gb_S sh) {g : gb_G} (h : f_X11_commas sh g = some out) : gb_C Γ M_X11_commas 0 0 0 sh g [.ref 77] (gb_Ri sh out) := by
  refine gb_C.of rfl (Nat.le_of_ble_eq_true rfl) ?_
  refine gb_pick (lv' := [(0, .ref 77)]) [0] rfl ?_
  unfold f_X11_commas at h
  refine gb_aload_n d_X11_commas_0 rfl ?_
  refine gb_iconst 0 d_X11_commas_1 rfl ?_
  refine gb_puti f_X11_145 (fun h => nomatch h) (hS 77 _ rfl) rfl rfl rfl d_X11_commas_2 ?_
  have h := gb_let_e h
  generalize gb_pi g 77 0 0 = g1 at h ⊢
  refine gb_aload_n d_X11_commas_5 rfl ?_
  refine gb_geti f_X11_215 (hS 77 _ rfl) rfl d_X11_commas_6 ?_
  cases h
  exact gb_iret d_X11_commas_9 rfl ⟨rfl, rfl, rfl⟩
-- X11_four
noncomputable def f_X11_four_3 (sh : List gb_Sh) : Nat → gb_G → Int32 → Int32 → Option (gb_G)
  | 0, _, _, _ => none
  | n + 1, g, y1, y2 => if y2 < 0 then (some g) else (gb_ck (g.1 77 13) 400 (gb_let (gb_pi g 86 ((g.1 77 13).toNatClampNeg) ((y1 >>> (y2 &&& 31)) &&& 255)) (fun g2 => gb_let (gb_pi g2 77 13 ((g2.1 77 13) + 1)) (fun g3 => f_X11_four_3 sh n g3 y1 (y2 + (-8))))))
noncomputable def f_X11_four (sh : List gb_Sh) (g : gb_G) (x1 : Int32) : Option (gb_G) := f_X11_four_3 sh gb_N g x1 24
set_option maxRecDepth 100000 in
set_option maxHeartbeats 4000000 in
theorem t_X11_four_3 {Γ : gb_X} {sh : List gb_Sh} {out : gb_G} (hS : gb_S sh) : ∀ (n : Nat) (g : gb_G) (y1 : Int32) (y2 : Int32), f_X11_four_3 sh n g y1 y2 = some out → gb_J Γ M_X11_four 0 (gb_Rv sh out) 0 0 sh g 3 [(0, .ref 77), (1, .int y1), (2, .int y2)] [] := by
  intro n
  induction n with
  | zero => intro g y1 y2 h; cases h
  | succ n ih =>
    intro g y1 y2 h
    rw [f_X11_four_3] at h
    refine gb_iload_n d_X11_four_3 rfl ?_
    refine gb_if_lt 39 d_X11_four_4 (by decide) (fun hc => ?_) (fun hc => ?_)
    · have h := gb_it hc h
      cases h
      exact gb_vret d_X11_four_39 rfl ⟨rfl, rfl, rfl⟩
    · have h := gb_if hc h
      refine gb_aload_n d_X11_four_7 rfl ?_
      refine gb_getr (r := 86) f_X11_35 (hS 77 _ rfl) rfl d_X11_four_8 ?_
      refine gb_aload_n d_X11_four_11 rfl ?_
      refine gb_geti f_X11_212 (hS 77 _ rfl) rfl d_X11_four_12 ?_
      refine gb_iload_n d_X11_four_15 rfl ?_
      refine gb_iload_n d_X11_four_16 rfl ?_
      refine gb_ishr d_X11_four_17 ?_
      refine gb_sipush 255 d_X11_four_18 rfl ?_
      refine gb_iand d_X11_four_21 ?_
      obtain ⟨hi1, h⟩ := gb_ck_e h
      refine gb_iast_ ((g.1 77 13).toNatClampNeg) rfl (hS 86 _ rfl) hi1 d_X11_four_22 ?_
      have h := gb_let_e h
      generalize gb_pi g 86 ((g.1 77 13).toNatClampNeg) ((y1 >>> (y2 &&& 31)) &&& 255) = g2 at h ⊢
      refine gb_aload_n d_X11_four_23 rfl ?_
      refine gb_dup d_X11_four_24 rfl ?_
      refine gb_geti f_X11_212 (hS 77 _ rfl) rfl d_X11_four_25 ?_
      refine gb_iconst 1 d_X11_four_28 rfl ?_
      refine gb_iadd d_X11_four_29 ?_
      refine gb_puti f_X11_212 (fun h => nomatch h) (hS 77 _ rfl) rfl rfl rfl d_X11_four_30 ?_
      have h := gb_let_e h
      generalize gb_pi g2 77 13 ((g2.1 77 13) + 1) = g3 at h ⊢
      refine gb_iinc (y2 + (-8)) [(2, .int (y2 + (-8))), (0, .ref 77), (1, .int y1)] d_X11_four_33 (Nat.le_of_ble_eq_true rfl) rfl rfl rfl ?_
      refine gb_goto 3 d_X11_four_36 (by decide) ?_
      refine gb_pick (lv' := [(0, .ref 77), (1, .int y1), (2, .int (y2 + (-8)))]) [1, 2, 0] rfl ?_
      exact ih _ y1 (y2 + (-8)) h
set_option maxRecDepth 100000 in
set_option maxHeartbeats 4000000 in
theorem t_X11_four {Γ : gb_X} {sh : List gb_Sh} {x1 : Int32} {out : gb_G} (hS : gb_S sh) {g : gb_G} (h : f_X11_four sh g x1 = some out) : gb_C Γ M_X11_four 0 0 0 sh g [.ref 77, .int x1] (gb_Rv sh out) := by
  refine gb_C.of rfl (Nat.le_of_ble_eq_true rfl) ?_
  refine gb_pick (lv' := [(0, .ref 77), (1, .int x1)]) [0, 1] rfl ?_
  unfold f_X11_four at h
  refine gb_bipush 24 d_X11_four_0 rfl ?_
  refine gb_istore_n [(2, .int 24), (0, .ref 77), (1, .int x1)] d_X11_four_2 (Nat.le_of_ble_eq_true rfl) rfl ?_
  refine gb_pick (lv' := [(0, .ref 77), (1, .int x1), (2, .int 24)]) [1, 2, 0] rfl ?_
  exact t_X11_four_3 hS  gb_N _ x1 24 h
