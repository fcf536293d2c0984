-- X11_feed
noncomputable def f_X11_feed (sh : List gb_Sh) (g : gb_G) (x1 : Int32) (x2 : Int32) (x3 : Int32) (x4 : Int32) (x5 : Int32) : Option (gb_G × Int32) := gb_let (gb_pi g 77 0 0) (fun g1 => if ((g1.1 77 13) + 20) ≤ 400 then (gb_bd (f_X11_four sh g1 x1) (fun r2 => gb_bd (f_X11_four sh r2 x2) (fun r4 => gb_bd (f_X11_four sh r4 x3) (fun r6 => gb_bd (f_X11_four sh r6 x4) (fun r8 => gb_bd (f_X11_four sh r8 x5) (fun r10 => some (r10, (r10.1 77 13)))))))) else (some (g1, (-1))))
set_option maxRecDepth 100000 in
set_option maxHeartbeats 4000000 in
theorem t_X11_feed {Γ : gb_X} {sh : List gb_Sh} {x1 : Int32} {x2 : Int32} {x3 : Int32} {x4 : Int32} {x5 : Int32} {out : gb_G × Int32} (hS : gb_S sh) {g : gb_G} (h : f_X11_feed sh g x1 x2 x3 x4 x5 = some out) : gb_C Γ M_X11_feed 1 0 0 sh g [.ref 77, .int x1, .int x2, .int x3, .int x4, .int x5] (gb_Ri sh out) := by
  refine gb_C.of rfl (Nat.le_of_ble_eq_true rfl) ?_
  refine gb_pick (lv' := [(0, .ref 77), (1, .int x1), (2, .int x2), (3, .int x3), (4, .int x4), (5, .int x5)]) [0, 1, 2, 3, 4, 5] rfl ?_
  unfold f_X11_feed at h
  refine gb_aload_n d_X11_feed_0 rfl ?_
  refine gb_iconst 0 d_X11_feed_1 rfl ?_
  refine gb_puti f_X11_145 (fun h => nomatch h) (hS 77 _ rfl) rfl rfl rfl d_X11_feed_2 ?_
  have h := gb_let_e h
  generalize gb_pi g 77 0 0 = g1 at h ⊢
  refine gb_aload_n d_X11_feed_5 rfl ?_
  refine gb_geti f_X11_212 (hS 77 _ rfl) rfl d_X11_feed_6 ?_
  refine gb_bipush 20 d_X11_feed_9 rfl ?_
  refine gb_iadd d_X11_feed_11 ?_
  refine gb_sipush 400 d_X11_feed_12 rfl ?_
  refine gb_icmp_le 20 d_X11_feed_15 (by decide) (fun hc => ?_) (fun hc => ?_)
  · have h := gb_it hc h
    refine gb_aload_n d_X11_feed_20 rfl ?_
    refine gb_iload_n d_X11_feed_21 rfl ?_
    obtain ⟨r2, e3, h⟩ := gb_bd_e h
    refine gb_cVv (As := [.int x1]) (rest := []) m_X11_218 (t_X11_four (Γ := Γ) hS e3) (hS 77 _ rfl) rfl (Nat.le_of_ble_eq_true rfl) rfl rfl (Nat.le_of_ble_eq_true rfl) d_X11_feed_22 ?_
    refine gb_aload_n d_X11_feed_25 rfl ?_
    refine gb_iload_n d_X11_feed_26 rfl ?_
    obtain ⟨r4, e5, h⟩ := gb_bd_e h
    refine gb_cVv (As := [.int x2]) (rest := []) m_X11_218 (t_X11_four (Γ := Γ) hS e5) (hS 77 _ rfl) rfl (Nat.le_of_ble_eq_true rfl) rfl rfl (Nat.le_of_ble_eq_true rfl) d_X11_feed_27 ?_
    refine gb_aload_n d_X11_feed_30 rfl ?_
    refine gb_iload_n d_X11_feed_31 rfl ?_
    obtain ⟨r6, e7, h⟩ := gb_bd_e h
    refine gb_cVv (As := [.int x3]) (rest := []) m_X11_218 (t_X11_four (Γ := Γ) hS e7) (hS 77 _ rfl) rfl (Nat.le_of_ble_eq_true rfl) rfl rfl (Nat.le_of_ble_eq_true rfl) d_X11_feed_32 ?_
    refine gb_aload_n d_X11_feed_35 rfl ?_
    refine gb_iload d_X11_feed_36 rfl ?_
    obtain ⟨r8, e9, h⟩ := gb_bd_e h
    refine gb_cVv (As := [.int x4]) (rest := []) m_X11_218 (t_X11_four (Γ := Γ) hS e9) (hS 77 _ rfl) rfl (Nat.le_of_ble_eq_true rfl) rfl rfl (Nat.le_of_ble_eq_true rfl) d_X11_feed_38 ?_
    refine gb_aload_n d_X11_feed_41 rfl ?_
    refine gb_iload d_X11_feed_42 rfl ?_
    obtain ⟨r10, e11, h⟩ := gb_bd_e h
    refine gb_cVv (As := [.int x5]) (rest := []) m_X11_218 (t_X11_four (Γ := Γ) hS e11) (hS 77 _ rfl) rfl (Nat.le_of_ble_eq_true rfl) rfl rfl (Nat.le_of_ble_eq_true rfl) d_X11_feed_44 ?_
    refine gb_aload_n d_X11_feed_47 rfl ?_
    refine gb_geti f_X11_212 (hS 77 _ rfl) rfl d_X11_feed_48 ?_
    cases h
    exact gb_iret d_X11_feed_51 rfl ⟨rfl, rfl, rfl⟩
  · have h := gb_if hc h
    refine gb_iconst (-1) d_X11_feed_18 rfl ?_
    cases h
    exact gb_iret d_X11_feed_19 rfl ⟨rfl, rfl, rfl⟩
-- X11_end
noncomputable def f_X11_end (sh : List gb_Sh) (g : gb_G) (x1 : Int32) : Option (gb_G × Int32) := gb_let (gb_pi g 77 0 0) (fun g1 => if x1 < 0 then (some (g1, (-1))) else (if x1 ≤ (g1.1 77 13) then (gb_let (gb_pi g1 77 13 x1) (fun g2 => some (g2, x1))) else (some (g1, (-1)))))
set_option maxRecDepth 100000 in
set_option maxHeartbeats 4000000 in
theorem t_X11_end {Γ : gb_X} {sh : List gb_Sh} {x1 : Int32} {out : gb_G × Int32} (hS : gb_S sh) {g : gb_G} (h : f_X11_end sh g x1 = some out) : gb_C Γ M_X11_end 0 0 0 sh g [.ref 77, .int x1] (gb_Ri sh out) := by
  refine gb_C.of rfl (Nat.le_of_ble_eq_true rfl) ?_
  refine gb_pick (lv' := [(0, .ref 77), (1, .int x1)]) [0, 1] rfl ?_
  unfold f_X11_end at h
  refine gb_aload_n d_X11_end_0 rfl ?_
  refine gb_iconst 0 d_X11_end_1 rfl ?_
  refine gb_puti f_X11_145 (fun h => nomatch h) (hS 77 _ rfl) rfl rfl rfl d_X11_end_2 ?_
  have h := gb_let_e h
  generalize gb_pi g 77 0 0 = g1 at h ⊢
  refine gb_iload_n d_X11_end_5 rfl ?_
  refine gb_if_lt 17 d_X11_end_6 (by decide) (fun hc => ?_) (fun hc => ?_)
  · have h := gb_it hc h
    refine gb_iconst (-1) d_X11_end_17 rfl ?_
    cases h
    exact gb_iret d_X11_end_18 rfl ⟨rfl, rfl, rfl⟩
  · have h := gb_if hc h
    refine gb_iload_n d_X11_end_9 rfl ?_
    refine gb_aload_n d_X11_end_10 rfl ?_
    refine gb_geti f_X11_212 (hS 77 _ rfl) rfl d_X11_end_11 ?_
    refine gb_icmp_le 19 d_X11_end_14 (by decide) (fun hc => ?_) (fun hc => ?_)
    · have h := gb_it hc h
      refine gb_aload_n d_X11_end_19 rfl ?_
      refine gb_iload_n d_X11_end_20 rfl ?_
      refine gb_puti f_X11_212 (fun h => nomatch h) (hS 77 _ rfl) rfl rfl rfl d_X11_end_21 ?_
      have h := gb_let_e h
      generalize gb_pi g1 77 13 x1 = g2 at h ⊢
      refine gb_iload_n d_X11_end_24 rfl ?_
      cases h
      exact gb_iret d_X11_end_25 rfl ⟨rfl, rfl, rfl⟩
    · have h := gb_if hc h
      refine gb_iconst (-1) d_X11_end_17 rfl ?_
      cases h
      exact gb_iret d_X11_end_18 rfl ⟨rfl, rfl, rfl⟩
-- X11_isSmall
noncomputable def f_X11_isSmall (sh : List gb_Sh) (g : gb_G) (x1 : Int32) : Option (gb_G × Int32) := if x1 < 97 then (some (g, 0)) else (if 122 < x1 then (some (g, 0)) else (some (g, 1)))
set_option maxRecDepth 100000 in
set_option maxHeartbeats 4000000 in
theorem t_X11_isSmall {Γ : gb_X} {sh : List gb_Sh} {x1 : Int32} {out : gb_G × Int32} (hS : gb_S sh) {g : gb_G} (h : f_X11_isSmall sh g x1 = some out) : gb_C Γ M_X11_isSmall 0 0 0 sh g [.int x1] (gb_Ri sh out) := by
  refine gb_C.of rfl (Nat.le_of_ble_eq_true rfl) ?_
  refine gb_pick (lv' := [(0, .int x1)]) [0] rfl ?_
  unfold f_X11_isSmall at h
  refine gb_iload_n d_X11_isSmall_0 rfl ?_
  refine gb_bipush 97 d_X11_isSmall_1 rfl ?_
  refine gb_icmp_lt 16 d_X11_isSmall_3 (by decide) (fun hc => ?_) (fun hc => ?_)
  · have h := gb_it hc h
    refine gb_iconst 0 d_X11_isSmall_16 rfl ?_
    cases h
    exact gb_zret d_X11_isSmall_17 rfl rfl ⟨rfl, rfl, rfl⟩
  · have h := gb_if hc h
    refine gb_iload_n d_X11_isSmall_6 rfl ?_
    refine gb_bipush 122 d_X11_isSmall_7 rfl ?_
    refine gb_icmp_gt 16 d_X11_isSmall_9 (by decide) (fun hc => ?_) (fun hc => ?_)
    · have h := gb_it hc h
      refine gb_iconst 0 d_X11_isSmall_16 rfl ?_
      cases h
      exact gb_zret d_X11_isSmall_17 rfl rfl ⟨rfl, rfl, rfl⟩
    · have h := gb_if hc h
      refine gb_iconst 1 d_X11_isSmall_12 rfl ?_
      refine gb_goto 17 d_X11_isSmall_13 (by decide) ?_
      cases h
      exact gb_zret d_X11_isSmall_17 rfl rfl ⟨rfl, rfl, rfl⟩
-- X11_isDigit
noncomputable def f_X11_isDigit (sh : List gb_Sh) (g : gb_G) (x1 : Int32) : Option (gb_G × Int32) := if x1 < 48 then (some (g, 0)) else (if 57 < x1 then (some (g, 0)) else (some (g, 1)))
set_option maxRecDepth 100000 in
set_option maxHeartbeats 4000000 in
theorem t_X11_isDigit {Γ : gb_X} {sh : List gb_Sh} {x1 : Int32} {out : gb_G × Int32} (hS : gb_S sh) {g : gb_G} (h : f_X11_isDigit sh g x1 = some out) : gb_C Γ M_X11_isDigit 0 0 0 sh g [.int x1] (gb_Ri sh out) := by
  refine gb_C.of rfl (Nat.le_of_ble_eq_true rfl) ?_
  refine gb_pick (lv' := [(0, .int x1)]) [0] rfl ?_
  unfold f_X11_isDigit at h
  refine gb_iload_n d_X11_isDigit_0 rfl ?_
  refine gb_bipush 48 d_X11_isDigit_1 rfl ?_
  refine gb_icmp_lt 16 d_X11_isDigit_3 (by decide) (fun hc => ?_) (fun hc => ?_)
  · have h := gb_it hc h
    refine gb_iconst 0 d_X11_isDigit_16 rfl ?_
    cases h
    exact gb_zret d_X11_isDigit_17 rfl rfl ⟨rfl, rfl, rfl⟩
  · have h := gb_if hc h
    refine gb_iload_n d_X11_isDigit_6 rfl ?_
    refine gb_bipush 57 d_X11_isDigit_7 rfl ?_
    refine gb_icmp_gt 16 d_X11_isDigit_9 (by decide) (fun hc => ?_) (fun hc => ?_)
    · have h := gb_it hc h
      refine gb_iconst 0 d_X11_isDigit_16 rfl ?_
      cases h
      exact gb_zret d_X11_isDigit_17 rfl rfl ⟨rfl, rfl, rfl⟩
    · have h := gb_if hc h
      refine gb_iconst 1 d_X11_isDigit_12 rfl ?_
      refine gb_goto 17 d_X11_isDigit_13 (by decide) ?_
      cases h
      exact gb_zret d_X11_isDigit_17 rfl rfl ⟨rfl, rfl, rfl⟩
-- X11_next
noncomputable def f_X11_next_319 (sh : List gb_Sh) (K243 : gb_G → Option (gb_G)) (g : gb_G) (z0 : Int64) : Option (gb_G) := gb_let (gb_pj g 77 17 z0) (fun g15 => gb_let (gb_pi g15 77 15 ((g15.1 77 15) + 1)) (fun g16 => K243 g16 ))
noncomputable def f_X11_next_243 (sh : List gb_Sh) : Nat → gb_G → Option (gb_G)
  | 0, _ => none
  | n + 1, g => if (g.1 77 16) = 2 then (if (g.1 77 13) ≤ (g.1 77 15) then (some g) else (gb_ck (g.1 77 15) 400 (gb_bd (f_X11_isDigit sh g (g.1 86 ((g.1 77 15).toNatClampNeg))) (fun r12 => if r12.2 = 0 then (some r12.1) else (if (lg_cmp (r12.1.2.1 77 17) 1000000) ≤ 0 then (gb_ck (r12.1.1 77 15) 400 (f_X11_next_319 sh (fun w  => f_X11_next_243 sh n w ) r12.1 ((((r12.1.2.1 77 17) * 10) + ((r12.1.1 86 ((r12.1.1 77 15).toNatClampNeg)).toInt64)) - 48))) else (f_X11_next_319 sh (fun w  => f_X11_next_243 sh n w ) r12.1 (r12.1.2.1 77 17))))))) else (some g)
noncomputable def f_X11_next_227 (sh : List gb_Sh) (K149 : gb_G → Option (gb_G)) (g : gb_G) (z0 : Int64) : Option (gb_G) := gb_let (gb_pj g 77 17 z0) (fun g20 => gb_let (gb_pi g20 77 15 ((g20.1 77 15) + 1)) (fun g21 => K149 g21 ))
noncomputable def f_X11_next_149 (sh : List gb_Sh) : Nat → gb_G → Option (gb_G)
  | 0, _ => none
  | n + 1, g => if (g.1 77 16) = 1 then (if (g.1 77 13) ≤ (g.1 77 15) then (f_X11_next_243 sh gb_N g ) else (gb_ck (g.1 77 15) 400 (gb_bd (f_X11_isSmall sh g (g.1 86 ((g.1 77 15).toNatClampNeg))) (fun r18 => if r18.2 = 0 then (f_X11_next_243 sh gb_N r18.1 ) else (if 10 ≤ ((r18.1.1 77 15) - (r18.1.1 77 14)) then (f_X11_next_227 sh (fun w  => f_X11_next_149 sh n w ) r18.1 (-1)) else (gb_ck (r18.1.1 77 15) 400 (f_X11_next_227 sh (fun w  => f_X11_next_149 sh n w ) r18.1 ((((r18.1.2.1 77 17) * 32) + ((r18.1.1 86 ((r18.1.1 77 15).toNatClampNeg)).toInt64)) - 96)))))))) else (f_X11_next_243 sh gb_N g )
noncomputable def f_X11_next_114 (sh : List gb_Sh) (g : gb_G) (z0 : Int32) : Option (gb_G) := gb_let (gb_pi g 77 16 z0) (fun g10 => if (g10.1 77 16) = 3 then (gb_ck (g10.1 77 14) 400 (gb_let (gb_pj g10 77 17 ((g10.1 86 ((g10.1 77 14).toNatClampNeg)).toInt64)) (fun g24 => gb_let (gb_pi g24 77 15 ((g24.1 77 15) + 1)) (fun g25 => f_X11_next_149 sh gb_N g25 )))) else (f_X11_next_149 sh gb_N g10 ))
noncomputable def f_X11_next_46 (sh : List gb_Sh) (g : gb_G)  : Option (gb_G) := gb_let (gb_pi g 77 15 (g.1 77 14)) (fun g2 => gb_let (gb_pj g2 77 17 0) (fun g3 => if (g3.1 77 14) = (g3.1 77 13) then (f_X11_next_114 sh g3 0) else (gb_ck (g3.1 77 14) 400 (gb_bd (f_X11_isSmall sh g3 (g3.1 86 ((g3.1 77 14).toNatClampNeg))) (fun r5 => if r5.2 = 0 then (gb_ck (r5.1.1 77 14) 400 (gb_bd (f_X11_isDigit sh r5.1 (r5.1.1 86 ((r5.1.1 77 14).toNatClampNeg))) (fun r8 => if r8.2 = 0 then (f_X11_next_114 sh r8.1 3) else (f_X11_next_114 sh r8.1 2)))) else (f_X11_next_114 sh r5.1 1))))))
noncomputable def f_X11_next_8 (sh : List gb_Sh) : Nat → gb_G → Option (gb_G)
  | 0, _ => none
  | n + 1, g => if (g.1 77 13) ≤ (g.1 77 14) then (f_X11_next_46 sh g ) else (gb_ck (g.1 77 14) 400 (if (g.1 86 ((g.1 77 14).toNatClampNeg)) = 32 then (gb_let (gb_pi g 77 14 ((g.1 77 14) + 1)) (fun g27 => f_X11_next_8 sh n g27 )) else (f_X11_next_46 sh g )))
noncomputable def f_X11_next (sh : List gb_Sh) (g : gb_G) : Option (gb_G) := gb_let (gb_pi g 77 14 (g.1 77 15)) (fun g1 => f_X11_next_8 sh gb_N g1 )
set_option maxRecDepth 100000 in
set_option maxHeartbeats 4000000 in
theorem t_X11_next_319 {Γ : gb_X} {sh : List gb_Sh} {out : gb_G} (hS : gb_S sh) {K243 : gb_G → Option (gb_G)} (hK243 : ∀ (g : gb_G) , K243 g  = some out → gb_J Γ M_X11_next 1 (gb_Rv sh out) 0 0 sh g 243 [(0, .ref 77)] []) : ∀ (g : gb_G) (z0 : Int64), f_X11_next_319 sh K243 g z0 = some out → gb_J Γ M_X11_next 1 (gb_Rv sh out) 0 0 sh g 319 [(0, .ref 77)] [.long z0, .ref 77] := by
  intro g z0 h
  unfold f_X11_next_319 at h
  refine gb_putl f_X11_234 (fun h => nomatch h) (hS 77 _ rfl) rfl rfl rfl d_X11_next_319 ?_
  have h := gb_let_e h
  generalize gb_pj g 77 17 z0 = g15 at h ⊢
  refine gb_aload_n d_X11_next_322 rfl ?_
  refine gb_dup d_X11_next_323 rfl ?_
  refine gb_geti f_X11_221 (hS 77 _ rfl) rfl d_X11_next_324 ?_
  refine gb_iconst 1 d_X11_next_327 rfl ?_
  refine gb_iadd d_X11_next_328 ?_
  refine gb_puti f_X11_221 (fun h => nomatch h) (hS 77 _ rfl) rfl rfl rfl d_X11_next_329 ?_
  have h := gb_let_e h
  generalize gb_pi g15 77 15 ((g15.1 77 15) + 1) = g16 at h ⊢
  refine gb_goto 243 d_X11_next_332 (by decide) ?_
  exact hK243 _  h
set_option maxRecDepth 100000 in
set_option maxHeartbeats 4000000 in
theorem t_X11_next_243 {Γ : gb_X} {sh : List gb_Sh} {out : gb_G} (hS : gb_S sh) : ∀ (n : Nat) (g : gb_G) , f_X11_next_243 sh n g  = some out → gb_J Γ M_X11_next 1 (gb_Rv sh out) 0 0 sh g 243 [(0, .ref 77)] [] := by
  intro n
  induction n with
  | zero => intro g  h; cases h
  | succ n ih =>
    intro g  h
    rw [f_X11_next_243] at h
    refine gb_aload_n d_X11_next_243 rfl ?_
    refine gb_geti f_X11_244 (hS 77 _ rfl) rfl d_X11_next_244 ?_
    refine gb_iconst 2 d_X11_next_247 rfl ?_
    refine gb_icmp_ne 335 d_X11_next_248 (by decide) (fun hc => ?_) (fun hc => ?_)
    · have h := gb_if hc h
      cases h
      exact gb_vret d_X11_next_335 rfl ⟨rfl, rfl, rfl⟩
    · have h := gb_it hc h
      refine gb_aload_n d_X11_next_251 rfl ?_
      refine gb_geti f_X11_221 (hS 77 _ rfl) rfl d_X11_next_252 ?_
      refine gb_aload_n d_X11_next_255 rfl ?_
      refine gb_geti f_X11_212 (hS 77 _ rfl) rfl d_X11_next_256 ?_
      refine gb_icmp_ge 335 d_X11_next_259 (by decide) (fun hc => ?_) (fun hc => ?_)
      · have h := gb_it hc h
        cases h
        exact gb_vret d_X11_next_335 rfl ⟨rfl, rfl, rfl⟩
      · have h := gb_if hc h
        refine gb_aload_n d_X11_next_262 rfl ?_
        refine gb_getr (r := 86) f_X11_35 (hS 77 _ rfl) rfl d_X11_next_263 ?_
        refine gb_aload_n d_X11_next_266 rfl ?_
        refine gb_geti f_X11_221 (hS 77 _ rfl) rfl d_X11_next_267 ?_
        obtain ⟨hi11, h⟩ := gb_ck_e h
        refine gb_iald_ ((g.1 77 15).toNatClampNeg) rfl (hS 86 _ rfl) hi11 d_X11_next_270 ?_
        obtain ⟨r12, e13, h⟩ := gb_bd_e h
        refine gb_cSi (As := [.int (g.1 86 ((g.1 77 15).toNatClampNeg))]) (rest := []) m_X11_241 (t_X11_isDigit (Γ := Γ) hS e13) (Nat.le_of_ble_eq_true rfl) rfl rfl (Nat.le_of_ble_eq_true rfl) d_X11_next_271 ?_
        refine gb_if_eq 335 d_X11_next_274 (by decide) (fun hc => ?_) (fun hc => ?_)
        · have h := gb_it hc h
          cases h
          exact gb_vret d_X11_next_335 rfl ⟨rfl, rfl, rfl⟩
        · have h := gb_if hc h
          refine gb_aload_n d_X11_next_277 rfl ?_
          refine gb_aload_n d_X11_next_278 rfl ?_
          refine gb_getl f_X11_234 (hS 77 _ rfl) rfl d_X11_next_279 ?_
          refine gb_ldc2 1000000 k_X11_253 d_X11_next_282 ?_
          refine gb_lcmp d_X11_next_285 ?_
          refine gb_if_le 296 d_X11_next_286 (by decide) (fun hc => ?_) (fun hc => ?_)
          · have h := gb_it hc h
            refine gb_aload_n d_X11_next_296 rfl ?_
            refine gb_getl f_X11_234 (hS 77 _ rfl) rfl d_X11_next_297 ?_
            refine gb_ldc2 10 k_X11_210 d_X11_next_300 ?_
            refine gb_lmul d_X11_next_303 ?_
            refine gb_aload_n d_X11_next_304 rfl ?_
            refine gb_getr (r := 86) f_X11_35 (hS 77 _ rfl) rfl d_X11_next_305 ?_
            refine gb_aload_n d_X11_next_308 rfl ?_
            refine gb_geti f_X11_221 (hS 77 _ rfl) rfl d_X11_next_309 ?_
            obtain ⟨hi14, h⟩ := gb_ck_e h
            refine gb_iald_ ((r12.1.1 77 15).toNatClampNeg) rfl (hS 86 _ rfl) hi14 d_X11_next_312 ?_
            refine gb_i2l d_X11_next_313 ?_
            refine gb_ladd d_X11_next_314 ?_
            refine gb_ldc2 48 k_X11_255 d_X11_next_315 ?_
            refine gb_lsub d_X11_next_318 ?_
            exact t_X11_next_319 hS (fun w  hw => ih w  hw) _ ((((r12.1.2.1 77 17) * 10) + ((r12.1.1 86 ((r12.1.1 77 15).toNatClampNeg)).toInt64)) - 48) h
          · have h := gb_if hc h
            refine gb_aload_n d_X11_next_289 rfl ?_
            refine gb_getl f_X11_234 (hS 77 _ rfl) rfl d_X11_next_290 ?_
            refine gb_goto 319 d_X11_next_293 (by decide) ?_
            exact t_X11_next_319 hS (fun w  hw => ih w  hw) _ (r12.1.2.1 77 17) h
set_option maxRecDepth 100000 in
set_option maxHeartbeats 4000000 in
theorem t_X11_next_227 {Γ : gb_X} {sh : List gb_Sh} {out : gb_G} (hS : gb_S sh) {K149 : gb_G → Option (gb_G)} (hK149 : ∀ (g : gb_G) , K149 g  = some out → gb_J Γ M_X11_next 1 (gb_Rv sh out) 0 0 sh g 149 [(0, .ref 77)] []) : ∀ (g : gb_G) (z0 : Int64), f_X11_next_227 sh K149 g z0 = some out → gb_J Γ M_X11_next 1 (gb_Rv sh out) 0 0 sh g 227 [(0, .ref 77)] [.long z0, .ref 77] := by
  intro g z0 h
  unfold f_X11_next_227 at h
  refine gb_putl f_X11_234 (fun h => nomatch h) (hS 77 _ rfl) rfl rfl rfl d_X11_next_227 ?_
  have h := gb_let_e h
  generalize gb_pj g 77 17 z0 = g20 at h ⊢
  refine gb_aload_n d_X11_next_230 rfl ?_
  refine gb_dup d_X11_next_231 rfl ?_
  refine gb_geti f_X11_221 (hS 77 _ rfl) rfl d_X11_next_232 ?_
  refine gb_iconst 1 d_X11_next_235 rfl ?_
  refine gb_iadd d_X11_next_236 ?_
  refine gb_puti f_X11_221 (fun h => nomatch h) (hS 77 _ rfl) rfl rfl rfl d_X11_next_237 ?_
  have h := gb_let_e h
  generalize gb_pi g20 77 15 ((g20.1 77 15) + 1) = g21 at h ⊢
  refine gb_goto 149 d_X11_next_240 (by decide) ?_
  exact hK149 _  h
set_option maxRecDepth 100000 in
set_option maxHeartbeats 4000000 in
theorem t_X11_next_149 {Γ : gb_X} {sh : List gb_Sh} {out : gb_G} (hS : gb_S sh) : ∀ (n : Nat) (g : gb_G) , f_X11_next_149 sh n g  = some out → gb_J Γ M_X11_next 1 (gb_Rv sh out) 0 0 sh g 149 [(0, .ref 77)] [] := by
  intro n
  induction n with
  | zero => intro g  h; cases h
  | succ n ih =>
    intro g  h
    rw [f_X11_next_149] at h
    refine gb_aload_n d_X11_next_149 rfl ?_
    refine gb_geti f_X11_244 (hS 77 _ rfl) rfl d_X11_next_150 ?_
    refine gb_iconst 1 d_X11_next_153 rfl ?_
    refine gb_icmp_ne 243 d_X11_next_154 (by decide) (fun hc => ?_) (fun hc => ?_)
    · have h := gb_if hc h
      exact t_X11_next_243 hS  gb_N _  h
    · have h := gb_it hc h
      refine gb_aload_n d_X11_next_157 rfl ?_
      refine gb_geti f_X11_221 (hS 77 _ rfl) rfl d_X11_next_158 ?_
      refine gb_aload_n d_X11_next_161 rfl ?_
      refine gb_geti f_X11_212 (hS 77 _ rfl) rfl d_X11_next_162 ?_
      refine gb_icmp_ge 243 d_X11_next_165 (by decide) (fun hc => ?_) (fun hc => ?_)
      · have h := gb_it hc h
        exact t_X11_next_243 hS  gb_N _  h
      · have h := gb_if hc h
        refine gb_aload_n d_X11_next_168 rfl ?_
        refine gb_getr (r := 86) f_X11_35 (hS 77 _ rfl) rfl d_X11_next_169 ?_
        refine gb_aload_n d_X11_next_172 rfl ?_
        refine gb_geti f_X11_221 (hS 77 _ rfl) rfl d_X11_next_173 ?_
        obtain ⟨hi17, h⟩ := gb_ck_e h
        refine gb_iald_ ((g.1 77 15).toNatClampNeg) rfl (hS 86 _ rfl) hi17 d_X11_next_176 ?_
        obtain ⟨r18, e19, h⟩ := gb_bd_e h
        refine gb_cSi (As := [.int (g.1 86 ((g.1 77 15).toNatClampNeg))]) (rest := []) m_X11_238 (t_X11_isSmall (Γ := Γ) hS e19) (Nat.le_of_ble_eq_true rfl) rfl rfl (Nat.le_of_ble_eq_true rfl) d_X11_next_177 ?_
        refine gb_if_eq 243 d_X11_next_180 (by decide) (fun hc => ?_) (fun hc => ?_)
        · have h := gb_it hc h
          exact t_X11_next_243 hS  gb_N _  h
        · have h := gb_if hc h
          refine gb_aload_n d_X11_next_183 rfl ?_
          refine gb_aload_n d_X11_next_184 rfl ?_
          refine gb_geti f_X11_221 (hS 77 _ rfl) rfl d_X11_next_185 ?_
          refine gb_aload_n d_X11_next_188 rfl ?_
          refine gb_geti f_X11_231 (hS 77 _ rfl) rfl d_X11_next_189 ?_
          refine gb_isub d_X11_next_192 ?_
          refine gb_bipush 10 d_X11_next_193 rfl ?_
          refine gb_icmp_ge 224 d_X11_next_195 (by decide) (fun hc => ?_) (fun hc => ?_)
          · have h := gb_it hc h
            refine gb_ldc2 (-1) k_X11_251 d_X11_next_224 ?_
            exact t_X11_next_227 hS (fun w  hw => ih w  hw) _ (-1) h
          · have h := gb_if hc h
            refine gb_aload_n d_X11_next_198 rfl ?_
            refine gb_getl f_X11_234 (hS 77 _ rfl) rfl d_X11_next_199 ?_
            refine gb_ldc2 32 k_X11_247 d_X11_next_202 ?_
            refine gb_lmul d_X11_next_205 ?_
            refine gb_aload_n d_X11_next_206 rfl ?_
            refine gb_getr (r := 86) f_X11_35 (hS 77 _ rfl) rfl d_X11_next_207 ?_
            refine gb_aload_n d_X11_next_210 rfl ?_
            refine gb_geti f_X11_221 (hS 77 _ rfl) rfl d_X11_next_211 ?_
            obtain ⟨hi22, h⟩ := gb_ck_e h
            refine gb_iald_ ((r18.1.1 77 15).toNatClampNeg) rfl (hS 86 _ rfl) hi22 d_X11_next_214 ?_
            refine gb_i2l d_X11_next_215 ?_
            refine gb_ladd d_X11_next_216 ?_
            refine gb_ldc2 96 k_X11_249 d_X11_next_217 ?_
            refine gb_lsub d_X11_next_220 ?_
            refine gb_goto 227 d_X11_next_221 (by decide) ?_
            exact t_X11_next_227 hS (fun w  hw => ih w  hw) _ ((((r18.1.2.1 77 17) * 32) + ((r18.1.1 86 ((r18.1.1 77 15).toNatClampNeg)).toInt64)) - 96) h
set_option maxRecDepth 100000 in
set_option maxHeartbeats 4000000 in
theorem t_X11_next_114 {Γ : gb_X} {sh : List gb_Sh} {out : gb_G} (hS : gb_S sh) : ∀ (g : gb_G) (z0 : Int32), f_X11_next_114 sh g z0 = some out → gb_J Γ M_X11_next 1 (gb_Rv sh out) 0 0 sh g 114 [(0, .ref 77)] [.int z0, .ref 77] := by
  intro g z0 h
  unfold f_X11_next_114 at h
  refine gb_puti f_X11_244 (fun h => nomatch h) (hS 77 _ rfl) rfl rfl rfl d_X11_next_114 ?_
  have h := gb_let_e h
  generalize gb_pi g 77 16 z0 = g10 at h ⊢
  refine gb_aload_n d_X11_next_117 rfl ?_
  refine gb_geti f_X11_244 (hS 77 _ rfl) rfl d_X11_next_118 ?_
  refine gb_iconst 3 d_X11_next_121 rfl ?_
  refine gb_icmp_ne 149 d_X11_next_122 (by decide) (fun hc => ?_) (fun hc => ?_)
  · have h := gb_if hc h
    exact t_X11_next_149 hS  gb_N _  h
  · have h := gb_it hc h
    refine gb_aload_n d_X11_next_125 rfl ?_
    refine gb_aload_n d_X11_next_126 rfl ?_
    refine gb_getr (r := 86) f_X11_35 (hS 77 _ rfl) rfl d_X11_next_127 ?_
    refine gb_aload_n d_X11_next_130 rfl ?_
    refine gb_geti f_X11_231 (hS 77 _ rfl) rfl d_X11_next_131 ?_
    obtain ⟨hi23, h⟩ := gb_ck_e h
    refine gb_iald_ ((g10.1 77 14).toNatClampNeg) rfl (hS 86 _ rfl) hi23 d_X11_next_134 ?_
    refine gb_i2l d_X11_next_135 ?_
    refine gb_putl f_X11_234 (fun h => nomatch h) (hS 77 _ rfl) rfl rfl rfl d_X11_next_136 ?_
    have h := gb_let_e h
    generalize gb_pj g10 77 17 ((g10.1 86 ((g10.1 77 14).toNatClampNeg)).toInt64) = g24 at h ⊢
    refine gb_aload_n d_X11_next_139 rfl ?_
    refine gb_dup d_X11_next_140 rfl ?_
    refine gb_geti f_X11_221 (hS 77 _ rfl) rfl d_X11_next_141 ?_
    refine gb_iconst 1 d_X11_next_144 rfl ?_
    refine gb_iadd d_X11_next_145 ?_
    refine gb_puti f_X11_221 (fun h => nomatch h) (hS 77 _ rfl) rfl rfl rfl d_X11_next_146 ?_
    have h := gb_let_e h
    generalize gb_pi g24 77 15 ((g24.1 77 15) + 1) = g25 at h ⊢
    exact t_X11_next_149 hS  gb_N _  h
set_option maxRecDepth 100000 in
set_option maxHeartbeats 4000000 in
theorem t_X11_next_46 {Γ : gb_X} {sh : List gb_Sh} {out : gb_G} (hS : gb_S sh) : ∀ (g : gb_G) , f_X11_next_46 sh g  = some out → gb_J Γ M_X11_next 1 (gb_Rv sh out) 0 0 sh g 46 [(0, .ref 77)] [] := by
  intro g  h
  unfold f_X11_next_46 at h
  refine gb_aload_n d_X11_next_46 rfl ?_
  refine gb_aload_n d_X11_next_47 rfl ?_
  refine gb_geti f_X11_231 (hS 77 _ rfl) rfl d_X11_next_48 ?_
  refine gb_puti f_X11_221 (fun h => nomatch h) (hS 77 _ rfl) rfl rfl rfl d_X11_next_51 ?_
  have h := gb_let_e h
  generalize gb_pi g 77 15 (g.1 77 14) = g2 at h ⊢
  refine gb_aload_n d_X11_next_54 rfl ?_
  refine gb_lconst 0 d_X11_next_55 rfl ?_
  refine gb_putl f_X11_234 (fun h => nomatch h) (hS 77 _ rfl) rfl rfl rfl d_X11_next_56 ?_
  have h := gb_let_e h
  generalize gb_pj g2 77 17 0 = g3 at h ⊢
  refine gb_aload_n d_X11_next_59 rfl ?_
  refine gb_aload_n d_X11_next_60 rfl ?_
  refine gb_geti f_X11_231 (hS 77 _ rfl) rfl d_X11_next_61 ?_
  refine gb_aload_n d_X11_next_64 rfl ?_
  refine gb_geti f_X11_212 (hS 77 _ rfl) rfl d_X11_next_65 ?_
  refine gb_icmp_ne 75 d_X11_next_68 (by decide) (fun hc => ?_) (fun hc => ?_)
  · have h := gb_if hc h
    refine gb_aload_n d_X11_next_75 rfl ?_
    refine gb_getr (r := 86) f_X11_35 (hS 77 _ rfl) rfl d_X11_next_76 ?_
    refine gb_aload_n d_X11_next_79 rfl ?_
    refine gb_geti f_X11_231 (hS 77 _ rfl) rfl d_X11_next_80 ?_
    obtain ⟨hi4, h⟩ := gb_ck_e h
    refine gb_iald_ ((g3.1 77 14).toNatClampNeg) rfl (hS 86 _ rfl) hi4 d_X11_next_83 ?_
    obtain ⟨r5, e6, h⟩ := gb_bd_e h
    refine gb_cSi (As := [.int (g3.1 86 ((g3.1 77 14).toNatClampNeg))]) (rest := [.ref 77]) m_X11_238 (t_X11_isSmall (Γ := Γ) hS e6) (Nat.le_of_ble_eq_true rfl) rfl rfl (Nat.le_of_ble_eq_true rfl) d_X11_next_84 ?_
    refine gb_if_eq 94 d_X11_next_87 (by decide) (fun hc => ?_) (fun hc => ?_)
    · have h := gb_it hc h
      refine gb_aload_n d_X11_next_94 rfl ?_
      refine gb_getr (r := 86) f_X11_35 (hS 77 _ rfl) rfl d_X11_next_95 ?_
      refine gb_aload_n d_X11_next_98 rfl ?_
      refine gb_geti f_X11_231 (hS 77 _ rfl) rfl d_X11_next_99 ?_
      obtain ⟨hi7, h⟩ := gb_ck_e h
      refine gb_iald_ ((r5.1.1 77 14).toNatClampNeg) rfl (hS 86 _ rfl) hi7 d_X11_next_102 ?_
      obtain ⟨r8, e9, h⟩ := gb_bd_e h
      refine gb_cSi (As := [.int (r5.1.1 86 ((r5.1.1 77 14).toNatClampNeg))]) (rest := [.ref 77]) m_X11_241 (t_X11_isDigit (Γ := Γ) hS e9) (Nat.le_of_ble_eq_true rfl) rfl rfl (Nat.le_of_ble_eq_true rfl) d_X11_next_103 ?_
      refine gb_if_eq 113 d_X11_next_106 (by decide) (fun hc => ?_) (fun hc => ?_)
      · have h := gb_it hc h
        refine gb_iconst 3 d_X11_next_113 rfl ?_
        exact t_X11_next_114 hS  _ 3 h
      · have h := gb_if hc h
        refine gb_iconst 2 d_X11_next_109 rfl ?_
        refine gb_goto 114 d_X11_next_110 (by decide) ?_
        exact t_X11_next_114 hS  _ 2 h
    · have h := gb_if hc h
      refine gb_iconst 1 d_X11_next_90 rfl ?_
      refine gb_goto 114 d_X11_next_91 (by decide) ?_
      exact t_X11_next_114 hS  _ 1 h
  · have h := gb_it hc h
    refine gb_iconst 0 d_X11_next_71 rfl ?_
    refine gb_goto 114 d_X11_next_72 (by decide) ?_
    exact t_X11_next_114 hS  _ 0 h
set_option maxRecDepth 100000 in
set_option maxHeartbeats 4000000 in
theorem t_X11_next_8 {Γ : gb_X} {sh : List gb_Sh} {out : gb_G} (hS : gb_S sh) : ∀ (n : Nat) (g : gb_G) , f_X11_next_8 sh n g  = some out → gb_J Γ M_X11_next 1 (gb_Rv sh out) 0 0 sh g 8 [(0, .ref 77)] [] := by
  intro n
  induction n with
  | zero => intro g  h; cases h
  | succ n ih =>
    intro g  h
    rw [f_X11_next_8] at h
    refine gb_aload_n d_X11_next_8 rfl ?_
    refine gb_geti f_X11_231 (hS 77 _ rfl) rfl d_X11_next_9 ?_
    refine gb_aload_n d_X11_next_12 rfl ?_
    refine gb_geti f_X11_212 (hS 77 _ rfl) rfl d_X11_next_13 ?_
    refine gb_icmp_ge 46 d_X11_next_16 (by decide) (fun hc => ?_) (fun hc => ?_)
    · have h := gb_it hc h
      exact t_X11_next_46 hS  _  h
    · have h := gb_if hc h
      refine gb_aload_n d_X11_next_19 rfl ?_
      refine gb_getr (r := 86) f_X11_35 (hS 77 _ rfl) rfl d_X11_next_20 ?_
      refine gb_aload_n d_X11_next_23 rfl ?_
      refine gb_geti f_X11_231 (hS 77 _ rfl) rfl d_X11_next_24 ?_
      obtain ⟨hi26, h⟩ := gb_ck_e h
      refine gb_iald_ ((g.1 77 14).toNatClampNeg) rfl (hS 86 _ rfl) hi26 d_X11_next_27 ?_
      refine gb_bipush 32 d_X11_next_28 rfl ?_
      refine gb_icmp_ne 46 d_X11_next_30 (by decide) (fun hc => ?_) (fun hc => ?_)
      · have h := gb_if hc h
        exact t_X11_next_46 hS  _  h
      · have h := gb_it hc h
        refine gb_aload_n d_X11_next_33 rfl ?_
        refine gb_dup d_X11_next_34 rfl ?_
        refine gb_geti f_X11_231 (hS 77 _ rfl) rfl d_X11_next_35 ?_
        refine gb_iconst 1 d_X11_next_38 rfl ?_
        refine gb_iadd d_X11_next_39 ?_
        refine gb_puti f_X11_231 (fun h => nomatch h) (hS 77 _ rfl) rfl rfl rfl d_X11_next_40 ?_
        have h := gb_let_e h
        generalize gb_pi g 77 14 ((g.1 77 14) + 1) = g27 at h ⊢
        refine gb_goto 8 d_X11_next_43 (by decide) ?_
        exact ih _  h
set_option maxRecDepth 100000 in
set_option maxHeartbeats 4000000 in
theorem t_X11_next {Γ : gb_X} {sh : List gb_Sh} {out : gb_G} (hS : gb_S sh) {g : gb_G} (h : f_X11_next sh g = some out) : gb_C Γ M_X11_next 1 0 0 sh g [.ref 77] (gb_Rv sh out) := by
  refine gb_C.of rfl (Nat.le_of_ble_eq_true rfl) ?_
  refine gb_pick (lv' := [(0, .ref 77)]) [0] rfl ?_
  unfold f_X11_next at h
  refine gb_aload_n d_X11_next_0 rfl ?_
  refine gb_aload_n d_X11_next_1 rfl ?_
  refine gb_geti f_X11_221 (hS 77 _ rfl) rfl d_X11_next_2 ?_
  refine gb_puti f_X11_231 (fun h => nomatch h) (hS 77 _ rfl) rfl rfl rfl d_X11_next_5 ?_
  have h := gb_let_e h
  generalize gb_pi g 77 14 (g.1 77 15) = g1 at h ⊢
  exact t_X11_next_8 hS  gb_N _  h
-- X11_begin
noncomputable def f_X11_begin (sh : List gb_Sh) (g : gb_G) : Option (gb_G) := gb_let (gb_pi g 77 15 0) (fun g1 => gb_let (gb_pi g1 77 19 0) (fun g2 => gb_let (gb_pi g2 77 18 (-1)) (fun g3 => gb_bd (f_X11_next sh g3) (fun r4 => some r4))))
set_option maxRecDepth 100000 in
set_option maxHeartbeats 4000000 in
theorem t_X11_begin {Γ : gb_X} {sh : List gb_Sh} {out : gb_G} (hS : gb_S sh) {g : gb_G} (h : f_X11_begin sh g = some out) : gb_C Γ M_X11_begin 2 0 0 sh g [.ref 77] (gb_Rv sh out) := by
  refine gb_C.of rfl (Nat.le_of_ble_eq_true rfl) ?_
  refine gb_pick (lv' := [(0, .ref 77)]) [0] rfl ?_
  unfold f_X11_begin at h
  refine gb_aload_n d_X11_begin_0 rfl ?_
  refine gb_iconst 0 d_X11_begin_1 rfl ?_
  refine gb_puti f_X11_221 (fun h => nomatch h) (hS 77 _ rfl) rfl rfl rfl d_X11_begin_2 ?_
  have h := gb_let_e h
  generalize gb_pi g 77 15 0 = g1 at h ⊢
  refine gb_aload_n d_X11_begin_5 rfl ?_
  refine gb_iconst 0 d_X11_begin_6 rfl ?_
  refine gb_puti f_X11_224 (fun h => nomatch h) (hS 77 _ rfl) rfl rfl rfl d_X11_begin_7 ?_
  have h := gb_let_e h
  generalize gb_pi g1 77 19 0 = g2 at h ⊢
  refine gb_aload_n d_X11_begin_10 rfl ?_
  refine gb_iconst (-1) d_X11_begin_11 rfl ?_
  refine gb_puti f_X11_38 (fun h => nomatch h) (hS 77 _ rfl) rfl rfl rfl d_X11_begin_12 ?_
  have h := gb_let_e h
  generalize gb_pi g2 77 18 (-1) = g3 at h ⊢
  refine gb_aload_n d_X11_begin_15 rfl ?_
  obtain ⟨r4, e5, h⟩ := gb_bd_e h
  refine gb_cVv (As := []) (rest := []) m_X11_228 (t_X11_next (Γ := Γ) hS e5) (hS 77 _ rfl) rfl (Nat.le_of_ble_eq_true rfl) rfl rfl (Nat.le_of_ble_eq_true rfl) d_X11_begin_16 ?_
  cases h
  exact gb_vret d_X11_begin_19 rfl ⟨rfl, rfl, rfl⟩
-- X11_isWord
noncomputable def f_X11_isWord (sh : List gb_Sh) (g : gb_G) (x1 : Int64) : Option (gb_G × Int32) := if (g.1 77 16) = 1 then (if (lg_cmp (g.2.1 77 17) x1) = 0 then (some (g, 1)) else (some (g, 0))) else (some (g, 0))
set_option maxRecDepth 100000 in
set_option maxHeartbeats 4000000 in
theorem t_X11_isWord {Γ : gb_X} {sh : List gb_Sh} {x1 : Int64} {out : gb_G × Int32} (hS : gb_S sh) {g : gb_G} (h : f_X11_isWord sh g x1 = some out) : gb_C Γ M_X11_isWord 0 0 0 sh g [.ref 77, .long x1] (gb_Ri sh out) := by
  refine gb_C.of rfl (Nat.le_of_ble_eq_true rfl) ?_
  refine gb_pick (lv' := [(0, .ref 77), (1, .long x1)]) [0, 1] rfl ?_
  unfold f_X11_isWord at h
  refine gb_aload_n d_X11_isWord_0 rfl ?_
  refine gb_geti f_X11_244 (hS 77 _ rfl) rfl d_X11_isWord_1 ?_
  refine gb_iconst 1 d_X11_isWord_4 rfl ?_
  refine gb_icmp_ne 21 d_X11_isWord_5 (by decide) (fun hc => ?_) (fun hc => ?_)
  · have h := gb_if hc h
    refine gb_iconst 0 d_X11_isWord_21 rfl ?_
    cases h
    exact gb_zret d_X11_isWord_22 rfl rfl ⟨rfl, rfl, rfl⟩
  · have h := gb_it hc h
    refine gb_aload_n d_X11_isWord_8 rfl ?_
    refine gb_getl f_X11_234 (hS 77 _ rfl) rfl d_X11_isWord_9 ?_
    refine gb_lload_n d_X11_isWord_12 rfl ?_
    refine gb_lcmp d_X11_isWord_13 ?_
    refine gb_if_ne 21 d_X11_isWord_14 (by decide) (fun hc => ?_) (fun hc => ?_)
    · have h := gb_if hc h
      refine gb_iconst 0 d_X11_isWord_21 rfl ?_
      cases h
      exact gb_zret d_X11_isWord_22 rfl rfl ⟨rfl, rfl, rfl⟩
    · have h := gb_it hc h
      refine gb_iconst 1 d_X11_isWord_17 rfl ?_
      refine gb_goto 22 d_X11_isWord_18 (by decide) ?_
      cases h
      exact gb_zret d_X11_isWord_22 rfl rfl ⟨rfl, rfl, rfl⟩
-- X11_isSign
noncomputable def f_X11_isSign (sh : List gb_Sh) (g : gb_G) (x1 : Int32) : Option (gb_G × Int32) := if (g.1 77 16) = 3 then (if (lg_cmp (g.2.1 77 17) x1.toInt64) = 0 then (some (g, 1)) else (some (g, 0))) else (some (g, 0))
set_option maxRecDepth 100000 in
set_option maxHeartbeats 4000000 in
theorem t_X11_isSign {Γ : gb_X} {sh : List gb_Sh} {x1 : Int32} {out : gb_G × Int32} (hS : gb_S sh) {g : gb_G} (h : f_X11_isSign sh g x1 = some out) : gb_C Γ M_X11_isSign 0 0 0 sh g [.ref 77, .int x1] (gb_Ri sh out) := by
  refine gb_C.of rfl (Nat.le_of_ble_eq_true rfl) ?_
  refine gb_pick (lv' := [(0, .ref 77), (1, .int x1)]) [0, 1] rfl ?_
  unfold f_X11_isSign at h
  refine gb_aload_n d_X11_isSign_0 rfl ?_
  refine gb_geti f_X11_244 (hS 77 _ rfl) rfl d_X11_isSign_1 ?_
  refine gb_iconst 3 d_X11_isSign_4 rfl ?_
  refine gb_icmp_ne 22 d_X11_isSign_5 (by decide) (fun hc => ?_) (fun hc => ?_)
  · have h := gb_if hc h
    refine gb_iconst 0 d_X11_isSign_22 rfl ?_
    cases h
    exact gb_zret d_X11_isSign_23 rfl rfl ⟨rfl, rfl, rfl⟩
  · have h := gb_it hc h
    refine gb_aload_n d_X11_isSign_8 rfl ?_
    refine gb_getl f_X11_234 (hS 77 _ rfl) rfl d_X11_isSign_9 ?_
    refine gb_iload_n d_X11_isSign_12 rfl ?_
    refine gb_i2l d_X11_isSign_13 ?_
    refine gb_lcmp d_X11_isSign_14 ?_
    refine gb_if_ne 22 d_X11_isSign_15 (by decide) (fun hc => ?_) (fun hc => ?_)
    · have h := gb_if hc h
      refine gb_iconst 0 d_X11_isSign_22 rfl ?_
      cases h
      exact gb_zret d_X11_isSign_23 rfl rfl ⟨rfl, rfl, rfl⟩
    · have h := gb_it hc h
      refine gb_iconst 1 d_X11_isSign_18 rfl ?_
      refine gb_goto 23 d_X11_isSign_19 (by decide) ?_
      cases h
      exact gb_zret d_X11_isSign_23 rfl rfl ⟨rfl, rfl, rfl⟩
-- X11_must
noncomputable def f_X11_must_24 (sh : List gb_Sh) (g : gb_G)  : Option (gb_G) := if (g.1 77 19) = 0 then (gb_bd (f_X11_next sh g) (fun r1 => some r1)) else (some g)
noncomputable def f_X11_must (sh : List gb_Sh) (g : gb_G) (x1 : Int32) : Option (gb_G) := if (g.1 77 19) = 0 then (if x1 = 0 then (gb_let (gb_pi g 77 19 1) (fun g3 => gb_let (gb_pi g3 77 18 (g3.1 77 14)) (fun g4 => f_X11_must_24 sh g4 ))) else (f_X11_must_24 sh g )) else (f_X11_must_24 sh g )
set_option maxRecDepth 100000 in
set_option maxHeartbeats 4000000 in
theorem t_X11_must_24 {Γ : gb_X} {sh : List gb_Sh} {out : gb_G} (hS : gb_S sh) : ∀ (g : gb_G) , f_X11_must_24 sh g  = some out → gb_J Γ M_X11_must 2 (gb_Rv sh out) 0 0 sh g 24 [(0, .ref 77)] [] := by
  intro g  h
  unfold f_X11_must_24 at h
  refine gb_aload_n d_X11_must_24 rfl ?_
  refine gb_geti f_X11_224 (hS 77 _ rfl) rfl d_X11_must_25 ?_
  refine gb_if_ne 35 d_X11_must_28 (by decide) (fun hc => ?_) (fun hc => ?_)
  · have h := gb_if hc h
    cases h
    exact gb_vret d_X11_must_35 rfl ⟨rfl, rfl, rfl⟩
  · have h := gb_it hc h
    refine gb_aload_n d_X11_must_31 rfl ?_
    obtain ⟨r1, e2, h⟩ := gb_bd_e h
    refine gb_cVv (As := []) (rest := []) m_X11_228 (t_X11_next (Γ := Γ) hS e2) (hS 77 _ rfl) rfl (Nat.le_of_ble_eq_true rfl) rfl rfl (Nat.le_of_ble_eq_true rfl) d_X11_must_32 ?_
    cases h
    exact gb_vret d_X11_must_35 rfl ⟨rfl, rfl, rfl⟩
set_option maxRecDepth 100000 in
set_option maxHeartbeats 4000000 in
theorem t_X11_must {Γ : gb_X} {sh : List gb_Sh} {x1 : Int32} {out : gb_G} (hS : gb_S sh) {g : gb_G} (h : f_X11_must sh g x1 = some out) : gb_C Γ M_X11_must 2 0 0 sh g [.ref 77, .int x1] (gb_Rv sh out) := by
  refine gb_C.of rfl (Nat.le_of_ble_eq_true rfl) ?_
  refine gb_pick (lv' := [(0, .ref 77), (1, .int x1)]) [0, 1] rfl ?_
  unfold f_X11_must at h
  refine gb_aload_n d_X11_must_0 rfl ?_
  refine gb_geti f_X11_224 (hS 77 _ rfl) rfl d_X11_must_1 ?_
  refine gb_if_ne 24 d_X11_must_4 (by decide) (fun hc => ?_) (fun hc => ?_)
  · have h := gb_if hc h
    refine gb_pick (lv' := [(0, .ref 77)]) [0] rfl ?_
    exact t_X11_must_24 hS  _  h
  · have h := gb_it hc h
    refine gb_iload_n d_X11_must_7 rfl ?_
    refine gb_if_ne 24 d_X11_must_8 (by decide) (fun hc => ?_) (fun hc => ?_)
    · have h := gb_if hc h
      refine gb_pick (lv' := [(0, .ref 77)]) [0] rfl ?_
      exact t_X11_must_24 hS  _  h
    · have h := gb_it hc h
      refine gb_aload_n d_X11_must_11 rfl ?_
      refine gb_iconst 1 d_X11_must_12 rfl ?_
      refine gb_puti f_X11_224 (fun h => nomatch h) (hS 77 _ rfl) rfl rfl rfl d_X11_must_13 ?_
      have h := gb_let_e h
      generalize gb_pi g 77 19 1 = g3 at h ⊢
      refine gb_aload_n d_X11_must_16 rfl ?_
      refine gb_aload_n d_X11_must_17 rfl ?_
      refine gb_geti f_X11_231 (hS 77 _ rfl) rfl d_X11_must_18 ?_
      refine gb_puti f_X11_38 (fun h => nomatch h) (hS 77 _ rfl) rfl rfl rfl d_X11_must_21 ?_
      have h := gb_let_e h
      generalize gb_pi g3 77 18 (g3.1 77 14) = g4 at h ⊢
      refine gb_pick (lv' := [(0, .ref 77)]) [0] rfl ?_
      exact t_X11_must_24 hS  _  h
-- X11_number
noncomputable def f_X11_number_33 (sh : List gb_Sh) (g : gb_G) (y5 : Int32) (z0 : Int32) : Option (gb_G × Int32) := gb_bd (f_X11_must sh g z0) (fun r1 => some (r1, y5))
noncomputable def f_X11_number (sh : List gb_Sh) (g : gb_G) (x1 : Int64) (x2 : Int64) : Option (gb_G × Int32) := if (g.1 77 16) = 2 then (gb_bd (f_X11_in sh g (g.2.1 77 17) x1 x2) (fun r3 => if r3.2 = 0 then (f_X11_number_33 sh r3.1 ((g.2.1 77 17).toInt32) 0) else (f_X11_number_33 sh r3.1 ((g.2.1 77 17).toInt32) 1))) else (f_X11_number_33 sh g ((g.2.1 77 17).toInt32) 0)
set_option maxRecDepth 100000 in
set_option maxHeartbeats 4000000 in
theorem t_X11_number_33 {Γ : gb_X} {sh : List gb_Sh} {out : gb_G × Int32} (hS : gb_S sh) : ∀ (g : gb_G) (y5 : Int32) (z0 : Int32), f_X11_number_33 sh g y5 z0 = some out → gb_J Γ M_X11_number 3 (gb_Ri sh out) 0 0 sh g 33 [(5, .int y5)] [.int z0, .ref 77] := by
  intro g y5 z0 h
  unfold f_X11_number_33 at h
  obtain ⟨r1, e2, h⟩ := gb_bd_e h
  refine gb_cVv (As := [.int z0]) (rest := []) m_X11_257 (t_X11_must (Γ := Γ) hS e2) (hS 77 _ rfl) rfl (Nat.le_of_ble_eq_true rfl) rfl rfl (Nat.le_of_ble_eq_true rfl) d_X11_number_33 ?_
  refine gb_iload d_X11_number_36 rfl ?_
  cases h
  exact gb_iret d_X11_number_38 rfl ⟨rfl, rfl, rfl⟩
set_option maxRecDepth 100000 in
set_option maxHeartbeats 4000000 in
theorem t_X11_number {Γ : gb_X} {sh : List gb_Sh} {x1 : Int64} {x2 : Int64} {out : gb_G × Int32} (hS : gb_S sh) {g : gb_G} (h : f_X11_number sh g x1 x2 = some out) : gb_C Γ M_X11_number 3 0 0 sh g [.ref 77, .long x1, .long x2] (gb_Ri sh out) := by
  refine gb_C.of rfl (Nat.le_of_ble_eq_true rfl) ?_
  refine gb_pick (lv' := [(0, .ref 77), (1, .long x1), (3, .long x2)]) [0, 1, 2] rfl ?_
  unfold f_X11_number at h
  refine gb_aload_n d_X11_number_0 rfl ?_
  refine gb_getl f_X11_234 (hS 77 _ rfl) rfl d_X11_number_1 ?_
  refine gb_l2i d_X11_number_4 ?_
  refine gb_istore [(5, .int ((g.2.1 77 17).toInt32)), (0, .ref 77), (1, .long x1), (3, .long x2)] d_X11_number_5 (Nat.le_of_ble_eq_true rfl) rfl ?_
  refine gb_aload_n d_X11_number_7 rfl ?_
  refine gb_aload_n d_X11_number_8 rfl ?_
  refine gb_geti f_X11_244 (hS 77 _ rfl) rfl d_X11_number_9 ?_
  refine gb_iconst 2 d_X11_number_12 rfl ?_
  refine gb_icmp_ne 32 d_X11_number_13 (by decide) (fun hc => ?_) (fun hc => ?_)
  · have h := gb_if hc h
    refine gb_iconst 0 d_X11_number_32 rfl ?_
    refine gb_pick (lv' := [(5, .int ((g.2.1 77 17).toInt32))]) [0] rfl ?_
    exact t_X11_number_33 hS  _ ((g.2.1 77 17).toInt32) 0 h
  · have h := gb_it hc h
    refine gb_aload_n d_X11_number_16 rfl ?_
    refine gb_getl f_X11_234 (hS 77 _ rfl) rfl d_X11_number_17 ?_
    refine gb_lload_n d_X11_number_20 rfl ?_
    refine gb_lload_n d_X11_number_21 rfl ?_
    obtain ⟨r3, e4, h⟩ := gb_bd_e h
    refine gb_cSi (As := [.long (g.2.1 77 17), .long x1, .long x2]) (rest := [.ref 77]) m_X11_165 (t_X11_in (Γ := Γ) hS e4) (Nat.le_of_ble_eq_true rfl) rfl rfl (Nat.le_of_ble_eq_true rfl) d_X11_number_22 ?_
    refine gb_if_eq 32 d_X11_number_25 (by decide) (fun hc => ?_) (fun hc => ?_)
    · have h := gb_it hc h
      refine gb_iconst 0 d_X11_number_32 rfl ?_
      refine gb_pick (lv' := [(5, .int ((g.2.1 77 17).toInt32))]) [0] rfl ?_
      exact t_X11_number_33 hS  _ ((g.2.1 77 17).toInt32) 0 h
    · have h := gb_if hc h
      refine gb_iconst 1 d_X11_number_28 rfl ?_
      refine gb_goto 33 d_X11_number_29 (by decide) ?_
      refine gb_pick (lv' := [(5, .int ((g.2.1 77 17).toInt32))]) [0] rfl ?_
      exact t_X11_number_33 hS  _ ((g.2.1 77 17).toInt32) 1 h
-- X11_fault
noncomputable def f_X11_fault (sh : List gb_Sh) (g : gb_G) : Option (gb_G × Int32) := gb_let (gb_pi g 77 0 0) (fun g1 => some (g1, (g1.1 77 18)))
set_option maxRecDepth 100000 in
set_option maxHeartbeats 4000000 in
theorem t_X11_fault {Γ : gb_X} {sh : List gb_Sh} {out : gb_G × Int32} (hS : gb_S sh) {g : gb_G} (h : f_X11_fault sh g = some out) : gb_C Γ M_X11_fault 0 0 0 sh g [.ref 77] (gb_Ri sh out) := by
  refine gb_C.of rfl (Nat.le_of_ble_eq_true rfl) ?_
  refine gb_pick (lv' := [(0, .ref 77)]) [0] rfl ?_
  unfold f_X11_fault at h
  refine gb_aload_n d_X11_fault_0 rfl ?_
  refine gb_iconst 0 d_X11_fault_1 rfl ?_
  refine gb_puti f_X11_145 (fun h => nomatch h) (hS 77 _ rfl) rfl rfl rfl d_X11_fault_2 ?_
  have h := gb_let_e h
  generalize gb_pi g 77 0 0 = g1 at h ⊢
  refine gb_aload_n d_X11_fault_5 rfl ?_
  refine gb_geti f_X11_38 (hS 77 _ rfl) rfl d_X11_fault_6 ?_
  cases h
  exact gb_iret d_X11_fault_9 rfl ⟨rfl, rfl, rfl⟩
-- X11_emit
noncomputable def f_X11_emit (sh : List gb_Sh) (g : gb_G) (x1 : Int32) (x2 : Int32) : Option (gb_G) := gb_ck (g.1 77 23) 400 (gb_let (gb_pi g 88 ((g.1 77 23).toNatClampNeg) x1) (fun g2 => gb_ck (g2.1 77 23) 400 (gb_let (gb_pi g2 89 ((g2.1 77 23).toNatClampNeg) x2) (fun g4 => gb_let (gb_pi g4 77 23 ((g4.1 77 23) + 1)) (fun g5 => some g5)))))
set_option maxRecDepth 100000 in
set_option maxHeartbeats 4000000 in
theorem t_X11_emit {Γ : gb_X} {sh : List gb_Sh} {x1 : Int32} {x2 : Int32} {out : gb_G} (hS : gb_S sh) {g : gb_G} (h : f_X11_emit sh g x1 x2 = some out) : gb_C Γ M_X11_emit 0 0 0 sh g [.ref 77, .int x1, .int x2] (gb_Rv sh out) := by
  refine gb_C.of rfl (Nat.le_of_ble_eq_true rfl) ?_
  refine gb_pick (lv' := [(0, .ref 77), (1, .int x1), (2, .int x2)]) [0, 1, 2] rfl ?_
  unfold f_X11_emit at h
  refine gb_aload_n d_X11_emit_0 rfl ?_
  refine gb_getr (r := 88) f_X11_45 (hS 77 _ rfl) rfl d_X11_emit_1 ?_
  refine gb_aload_n d_X11_emit_4 rfl ?_
  refine gb_geti f_X11_261 (hS 77 _ rfl) rfl d_X11_emit_5 ?_
  refine gb_iload_n d_X11_emit_8 rfl ?_
  obtain ⟨hi1, h⟩ := gb_ck_e h
  refine gb_iast_ ((g.1 77 23).toNatClampNeg) rfl (hS 88 _ rfl) hi1 d_X11_emit_9 ?_
  have h := gb_let_e h
  generalize gb_pi g 88 ((g.1 77 23).toNatClampNeg) x1 = g2 at h ⊢
  refine gb_aload_n d_X11_emit_10 rfl ?_
  refine gb_getr (r := 89) f_X11_48 (hS 77 _ rfl) rfl d_X11_emit_11 ?_
  refine gb_aload_n d_X11_emit_14 rfl ?_
  refine gb_geti f_X11_261 (hS 77 _ rfl) rfl d_X11_emit_15 ?_
  refine gb_iload_n d_X11_emit_18 rfl ?_
  obtain ⟨hi3, h⟩ := gb_ck_e h
  refine gb_iast_ ((g2.1 77 23).toNatClampNeg) rfl (hS 89 _ rfl) hi3 d_X11_emit_19 ?_
  have h := gb_let_e h
  generalize gb_pi g2 89 ((g2.1 77 23).toNatClampNeg) x2 = g4 at h ⊢
  refine gb_aload_n d_X11_emit_20 rfl ?_
  refine gb_dup d_X11_emit_21 rfl ?_
  refine gb_geti f_X11_261 (hS 77 _ rfl) rfl d_X11_emit_22 ?_
  refine gb_iconst 1 d_X11_emit_25 rfl ?_
  refine gb_iadd d_X11_emit_26 ?_
  refine gb_puti f_X11_261 (fun h => nomatch h) (hS 77 _ rfl) rfl rfl rfl d_X11_emit_27 ?_
  have h := gb_let_e h
  generalize gb_pi g4 77 23 ((g4.1 77 23) + 1) = g5 at h ⊢
  cases h
  exact gb_vret d_X11_emit_30 rfl ⟨rfl, rfl, rfl⟩
-- X11_push
noncomputable def f_X11_push (sh : List gb_Sh) (g : gb_G) (x1 : Int32) (x2 : Int32) : Option (gb_G) := gb_ck (g.1 77 29) 400 (gb_let (gb_pi g 90 ((g.1 77 29).toNatClampNeg) x1) (fun g2 => gb_ck (g2.1 77 29) 400 (gb_let (gb_pi g2 91 ((g2.1 77 29).toNatClampNeg) x2) (fun g4 => gb_let (gb_pi g4 77 29 ((g4.1 77 29) + 1)) (fun g5 => some g5)))))
set_option maxRecDepth 100000 in
set_option maxHeartbeats 4000000 in
theorem t_X11_push {Γ : gb_X} {sh : List gb_Sh} {x1 : Int32} {x2 : Int32} {out : gb_G} (hS : gb_S sh) {g : gb_G} (h : f_X11_push sh g x1 x2 = some out) : gb_C Γ M_X11_push 0 0 0 sh g [.ref 77, .int x1, .int x2] (gb_Rv sh out) := by
  refine gb_C.of rfl (Nat.le_of_ble_eq_true rfl) ?_
  refine gb_pick (lv' := [(0, .ref 77), (1, .int x1), (2, .int x2)]) [0, 1, 2] rfl ?_
  unfold f_X11_push at h
  refine gb_aload_n d_X11_push_0 rfl ?_
  refine gb_getr (r := 90) f_X11_51 (hS 77 _ rfl) rfl d_X11_push_1 ?_
  refine gb_aload_n d_X11_push_4 rfl ?_
  refine gb_geti f_X11_264 (hS 77 _ rfl) rfl d_X11_push_5 ?_
  refine gb_iload_n d_X11_push_8 rfl ?_
  obtain ⟨hi1, h⟩ := gb_ck_e h
  refine gb_iast_ ((g.1 77 29).toNatClampNeg) rfl (hS 90 _ rfl) hi1 d_X11_push_9 ?_
  have h := gb_let_e h
  generalize gb_pi g 90 ((g.1 77 29).toNatClampNeg) x1 = g2 at h ⊢
  refine gb_aload_n d_X11_push_10 rfl ?_
  refine gb_getr (r := 91) f_X11_54 (hS 77 _ rfl) rfl d_X11_push_11 ?_
  refine gb_aload_n d_X11_push_14 rfl ?_
  refine gb_geti f_X11_264 (hS 77 _ rfl) rfl d_X11_push_15 ?_
  refine gb_iload_n d_X11_push_18 rfl ?_
  obtain ⟨hi3, h⟩ := gb_ck_e h
  refine gb_iast_ ((g2.1 77 29).toNatClampNeg) rfl (hS 91 _ rfl) hi3 d_X11_push_19 ?_
  have h := gb_let_e h
  generalize gb_pi g2 91 ((g2.1 77 29).toNatClampNeg) x2 = g4 at h ⊢
  refine gb_aload_n d_X11_push_20 rfl ?_
  refine gb_dup d_X11_push_21 rfl ?_
  refine gb_geti f_X11_264 (hS 77 _ rfl) rfl d_X11_push_22 ?_
  refine gb_iconst 1 d_X11_push_25 rfl ?_
  refine gb_iadd d_X11_push_26 ?_
  refine gb_puti f_X11_264 (fun h => nomatch h) (hS 77 _ rfl) rfl rfl rfl d_X11_push_27 ?_
  have h := gb_let_e h
  generalize gb_pi g4 77 29 ((g4.1 77 29) + 1) = g5 at h ⊢
  cases h
  exact gb_vret d_X11_push_30 rfl ⟨rfl, rfl, rfl⟩
-- X11_binds
noncomputable def f_X11_binds (sh : List gb_Sh) (g : gb_G) (x1 : Int32) : Option (gb_G × Int32) := if x1 < 31 then (if x1 = 30 then (some (g, 1)) else (if x1 = 29 then (some (g, 2)) else (if x1 = 28 then (some (g, 3)) else (if x1 < 25 then (if x1 < 22 then (some (g, 5)) else (some (g, 6))) else (some (g, 4)))))) else (some (g, 0))
set_option maxRecDepth 100000 in
set_option maxHeartbeats 4000000 in
theorem t_X11_binds {Γ : gb_X} {sh : List gb_Sh} {x1 : Int32} {out : gb_G × Int32} (hS : gb_S sh) {g : gb_G} (h : f_X11_binds sh g x1 = some out) : gb_C Γ M_X11_binds 0 0 0 sh g [.int x1] (gb_Ri sh out) := by
  refine gb_C.of rfl (Nat.le_of_ble_eq_true rfl) ?_
  refine gb_pick (lv' := [(0, .int x1)]) [0] rfl ?_
  unfold f_X11_binds at h
  refine gb_iload_n d_X11_binds_0 rfl ?_
  refine gb_bipush 31 d_X11_binds_1 rfl ?_
  refine gb_icmp_lt 10 d_X11_binds_3 (by decide) (fun hc => ?_) (fun hc => ?_)
  · have h := gb_it hc h
    refine gb_iload_n d_X11_binds_10 rfl ?_
    refine gb_bipush 30 d_X11_binds_11 rfl ?_
    refine gb_icmp_ne 20 d_X11_binds_13 (by decide) (fun hc => ?_) (fun hc => ?_)
    · have h := gb_if hc h
      refine gb_iload_n d_X11_binds_20 rfl ?_
      refine gb_bipush 29 d_X11_binds_21 rfl ?_
      refine gb_icmp_ne 30 d_X11_binds_23 (by decide) (fun hc => ?_) (fun hc => ?_)
      · have h := gb_if hc h
        refine gb_iload_n d_X11_binds_30 rfl ?_
        refine gb_bipush 28 d_X11_binds_31 rfl ?_
        refine gb_icmp_ne 40 d_X11_binds_33 (by decide) (fun hc => ?_) (fun hc => ?_)
        · have h := gb_if hc h
          refine gb_iload_n d_X11_binds_40 rfl ?_
          refine gb_bipush 25 d_X11_binds_41 rfl ?_
          refine gb_icmp_lt 50 d_X11_binds_43 (by decide) (fun hc => ?_) (fun hc => ?_)
          · have h := gb_it hc h
            refine gb_iload_n d_X11_binds_50 rfl ?_
            refine gb_bipush 22 d_X11_binds_51 rfl ?_
            refine gb_icmp_lt 61 d_X11_binds_53 (by decide) (fun hc => ?_) (fun hc => ?_)
            · have h := gb_it hc h
              refine gb_iconst 5 d_X11_binds_61 rfl ?_
              cases h
              exact gb_iret d_X11_binds_62 rfl ⟨rfl, rfl, rfl⟩
            · have h := gb_if hc h
              refine gb_bipush 6 d_X11_binds_56 rfl ?_
              refine gb_goto 62 d_X11_binds_58 (by decide) ?_
              cases h
              exact gb_iret d_X11_binds_62 rfl ⟨rfl, rfl, rfl⟩
          · have h := gb_if hc h
            refine gb_iconst 4 d_X11_binds_46 rfl ?_
            refine gb_goto 62 d_X11_binds_47 (by decide) ?_
            cases h
            exact gb_iret d_X11_binds_62 rfl ⟨rfl, rfl, rfl⟩
        · have h := gb_it hc h
          refine gb_iconst 3 d_X11_binds_36 rfl ?_
          refine gb_goto 62 d_X11_binds_37 (by decide) ?_
          cases h
          exact gb_iret d_X11_binds_62 rfl ⟨rfl, rfl, rfl⟩
      · have h := gb_it hc h
        refine gb_iconst 2 d_X11_binds_26 rfl ?_
        refine gb_goto 62 d_X11_binds_27 (by decide) ?_
        cases h
        exact gb_iret d_X11_binds_62 rfl ⟨rfl, rfl, rfl⟩
    · have h := gb_it hc h
      refine gb_iconst 1 d_X11_binds_16 rfl ?_
      refine gb_goto 62 d_X11_binds_17 (by decide) ?_
      cases h
      exact gb_iret d_X11_binds_62 rfl ⟨rfl, rfl, rfl⟩
  · have h := gb_if hc h
    refine gb_iconst 0 d_X11_binds_6 rfl ?_
    refine gb_goto 62 d_X11_binds_7 (by decide) ?_
    cases h
    exact gb_iret d_X11_binds_62 rfl ⟨rfl, rfl, rfl⟩
-- X11_settle
noncomputable def f_X11_settle_63 (sh : List gb_Sh) (K0 : gb_G → Int32 → Option (gb_G)) (g : gb_G) (y1 : Int32) : Option (gb_G) := gb_ck (g.1 77 29) 400 (gb_ck (g.1 91 ((g.1 77 29).toNatClampNeg)) 400 (gb_let (gb_pi g 89 ((g.1 91 ((g.1 77 29).toNatClampNeg)).toNatClampNeg) (g.1 77 23)) (fun g8 => K0 g8 y1)))
noncomputable def f_X11_settle_0 (sh : List gb_Sh) : Nat → gb_G → Int32 → Option (gb_G)
  | 0, _, _ => none
  | n + 1, g, y1 => if (g.1 77 29) ≤ 0 then (some g) else (gb_ck ((g.1 77 29) - 1) 400 (gb_bd (f_X11_binds sh g (g.1 90 (((g.1 77 29) - 1).toNatClampNeg))) (fun r10 => if r10.2 < y1 then (some r10.1) else (gb_let (gb_pi r10.1 77 29 ((r10.1.1 77 29) - 1)) (fun g12 => gb_ck (g12.1 77 29) 400 (if (g12.1 90 ((g12.1 77 29).toNatClampNeg)) = 29 then (f_X11_settle_63 sh (fun w w0 => f_X11_settle_0 sh n w w0) g12 y1) else (gb_ck (g12.1 77 29) 400 (if (g12.1 90 ((g12.1 77 29).toNatClampNeg)) = 30 then (f_X11_settle_63 sh (fun w w0 => f_X11_settle_0 sh n w w0) g12 y1) else (gb_ck (g12.1 77 29) 400 (gb_bd (f_X11_emit sh g12 (g12.1 90 ((g12.1 77 29).toNatClampNeg)) 0) (fun r16 => f_X11_settle_0 sh n r16 y1)))))))))))
noncomputable def f_X11_settle (sh : List gb_Sh) (g : gb_G) (x1 : Int32) : Option (gb_G) := if (g.1 77 29) ≤ 0 then (some g) else (gb_ck ((g.1 77 29) - 1) 400 (gb_bd (f_X11_binds sh g (g.1 90 (((g.1 77 29) - 1).toNatClampNeg))) (fun r2 => if r2.2 < x1 then (some r2.1) else (gb_let (gb_pi r2.1 77 29 ((r2.1.1 77 29) - 1)) (fun g4 => gb_ck (g4.1 77 29) 400 (if (g4.1 90 ((g4.1 77 29).toNatClampNeg)) = 29 then (f_X11_settle_63 sh (fun w w0 => f_X11_settle_0 sh gb_N w w0) g4 x1) else (gb_ck (g4.1 77 29) 400 (if (g4.1 90 ((g4.1 77 29).toNatClampNeg)) = 30 then (f_X11_settle_63 sh (fun w w0 => f_X11_settle_0 sh gb_N w w0) g4 x1) else (gb_ck (g4.1 77 29) 400 (gb_bd (f_X11_emit sh g4 (g4.1 90 ((g4.1 77 29).toNatClampNeg)) 0) (fun r20 => f_X11_settle_0 sh gb_N r20 x1)))))))))))
set_option maxRecDepth 100000 in
set_option maxHeartbeats 4000000 in
theorem t_X11_settle_63 {Γ : gb_X} {sh : List gb_Sh} {out : gb_G} (hS : gb_S sh) {K0 : gb_G → Int32 → Option (gb_G)} (hK0 : ∀ (g : gb_G) (y1 : Int32), K0 g y1 = some out → gb_J Γ M_X11_settle 1 (gb_Rv sh out) 0 0 sh g 0 [(0, .ref 77), (1, .int y1)] []) : ∀ (g : gb_G) (y1 : Int32), f_X11_settle_63 sh K0 g y1 = some out → gb_J Γ M_X11_settle 1 (gb_Rv sh out) 0 0 sh g 63 [(0, .ref 77), (1, .int y1)] [] := by
  intro g y1 h
  unfold f_X11_settle_63 at h
  refine gb_aload_n d_X11_settle_63 rfl ?_
  refine gb_getr (r := 89) f_X11_48 (hS 77 _ rfl) rfl d_X11_settle_64 ?_
  refine gb_aload_n d_X11_settle_67 rfl ?_
  refine gb_getr (r := 91) f_X11_54 (hS 77 _ rfl) rfl d_X11_settle_68 ?_
  refine gb_aload_n d_X11_settle_71 rfl ?_
  refine gb_geti f_X11_264 (hS 77 _ rfl) rfl d_X11_settle_72 ?_
  obtain ⟨hi6, h⟩ := gb_ck_e h
  refine gb_iald_ ((g.1 77 29).toNatClampNeg) rfl (hS 91 _ rfl) hi6 d_X11_settle_75 ?_
  refine gb_aload_n d_X11_settle_76 rfl ?_
  refine gb_geti f_X11_261 (hS 77 _ rfl) rfl d_X11_settle_77 ?_
  obtain ⟨hi7, h⟩ := gb_ck_e h
  refine gb_iast_ ((g.1 91 ((g.1 77 29).toNatClampNeg)).toNatClampNeg) rfl (hS 89 _ rfl) hi7 d_X11_settle_80 ?_
  have h := gb_let_e h
  generalize gb_pi g 89 ((g.1 91 ((g.1 77 29).toNatClampNeg)).toNatClampNeg) (g.1 77 23) = g8 at h ⊢
  refine gb_goto 0 d_X11_settle_81 (by decide) ?_
  exact hK0 _ y1 h
set_option maxRecDepth 100000 in
set_option maxHeartbeats 4000000 in
theorem t_X11_settle_0 {Γ : gb_X} {sh : List gb_Sh} {out : gb_G} (hS : gb_S sh) : ∀ (n : Nat) (g : gb_G) (y1 : Int32), f_X11_settle_0 sh n g y1 = some out → gb_J Γ M_X11_settle 1 (gb_Rv sh out) 0 0 sh g 0 [(0, .ref 77), (1, .int y1)] [] := by
  intro n
  induction n with
  | zero => intro g y1 h; cases h
  | succ n ih =>
    intro g y1 h
    rw [f_X11_settle_0] at h
    refine gb_aload_n d_X11_settle_0 rfl ?_
    refine gb_geti f_X11_264 (hS 77 _ rfl) rfl d_X11_settle_1 ?_
    refine gb_if_le 101 d_X11_settle_4 (by decide) (fun hc => ?_) (fun hc => ?_)
    · have h := gb_it hc h
      cases h
      exact gb_vret d_X11_settle_101 rfl ⟨rfl, rfl, rfl⟩
    · have h := gb_if hc h
      refine gb_aload_n d_X11_settle_7 rfl ?_
      refine gb_getr (r := 90) f_X11_51 (hS 77 _ rfl) rfl d_X11_settle_8 ?_
      refine gb_aload_n d_X11_settle_11 rfl ?_
      refine gb_geti f_X11_264 (hS 77 _ rfl) rfl d_X11_settle_12 ?_
      refine gb_iconst 1 d_X11_settle_15 rfl ?_
      refine gb_isub d_X11_settle_16 ?_
      obtain ⟨hi9, h⟩ := gb_ck_e h
      refine gb_iald_ (((g.1 77 29) - 1).toNatClampNeg) rfl (hS 90 _ rfl) hi9 d_X11_settle_17 ?_
      obtain ⟨r10, e11, h⟩ := gb_bd_e h
      refine gb_cSi (As := [.int (g.1 90 (((g.1 77 29) - 1).toNatClampNeg))]) (rest := []) m_X11_267 (t_X11_binds (Γ := Γ) hS e11) (Nat.le_of_ble_eq_true rfl) rfl rfl (Nat.le_of_ble_eq_true rfl) d_X11_settle_18 ?_
      refine gb_iload_n d_X11_settle_21 rfl ?_
      refine gb_icmp_lt 101 d_X11_settle_22 (by decide) (fun hc => ?_) (fun hc => ?_)
      · have h := gb_it hc h
        cases h
        exact gb_vret d_X11_settle_101 rfl ⟨rfl, rfl, rfl⟩
      · have h := gb_if hc h
        refine gb_aload_n d_X11_settle_25 rfl ?_
        refine gb_dup d_X11_settle_26 rfl ?_
        refine gb_geti f_X11_264 (hS 77 _ rfl) rfl d_X11_settle_27 ?_
        refine gb_iconst 1 d_X11_settle_30 rfl ?_
        refine gb_isub d_X11_settle_31 ?_
        refine gb_puti f_X11_264 (fun h => nomatch h) (hS 77 _ rfl) rfl rfl rfl d_X11_settle_32 ?_
        have h := gb_let_e h
        generalize gb_pi r10.1 77 29 ((r10.1.1 77 29) - 1) = g12 at h ⊢
        refine gb_aload_n d_X11_settle_35 rfl ?_
        refine gb_getr (r := 90) f_X11_51 (hS 77 _ rfl) rfl d_X11_settle_36 ?_
        refine gb_aload_n d_X11_settle_39 rfl ?_
        refine gb_geti f_X11_264 (hS 77 _ rfl) rfl d_X11_settle_40 ?_
        obtain ⟨hi13, h⟩ := gb_ck_e h
        refine gb_iald_ ((g12.1 77 29).toNatClampNeg) rfl (hS 90 _ rfl) hi13 d_X11_settle_43 ?_
        refine gb_bipush 29 d_X11_settle_44 rfl ?_
        refine gb_icmp_eq 63 d_X11_settle_46 (by decide) (fun hc => ?_) (fun hc => ?_)
        · have h := gb_it hc h
          exact t_X11_settle_63 hS (fun w w0 hw => ih w w0 hw) _ y1 h
        · have h := gb_if hc h
          refine gb_aload_n d_X11_settle_49 rfl ?_
          refine gb_getr (r := 90) f_X11_51 (hS 77 _ rfl) rfl d_X11_settle_50 ?_
          refine gb_aload_n d_X11_settle_53 rfl ?_
          refine gb_geti f_X11_264 (hS 77 _ rfl) rfl d_X11_settle_54 ?_
          obtain ⟨hi14, h⟩ := gb_ck_e h
          refine gb_iald_ ((g12.1 77 29).toNatClampNeg) rfl (hS 90 _ rfl) hi14 d_X11_settle_57 ?_
          refine gb_bipush 30 d_X11_settle_58 rfl ?_
          refine gb_icmp_ne 84 d_X11_settle_60 (by decide) (fun hc => ?_) (fun hc => ?_)
          · have h := gb_if hc h
            refine gb_aload_n d_X11_settle_84 rfl ?_
            refine gb_aload_n d_X11_settle_85 rfl ?_
            refine gb_getr (r := 90) f_X11_51 (hS 77 _ rfl) rfl d_X11_settle_86 ?_
            refine gb_aload_n d_X11_settle_89 rfl ?_
            refine gb_geti f_X11_264 (hS 77 _ rfl) rfl d_X11_settle_90 ?_
            obtain ⟨hi15, h⟩ := gb_ck_e h
            refine gb_iald_ ((g12.1 77 29).toNatClampNeg) rfl (hS 90 _ rfl) hi15 d_X11_settle_93 ?_
            refine gb_iconst 0 d_X11_settle_94 rfl ?_
            obtain ⟨r16, e17, h⟩ := gb_bd_e h
            refine gb_cVv (As := [.int (g12.1 90 ((g12.1 77 29).toNatClampNeg)), .int 0]) (rest := []) m_X11_270 (t_X11_emit (Γ := Γ) hS e17) (hS 77 _ rfl) rfl (Nat.le_of_ble_eq_true rfl) rfl rfl (Nat.le_of_ble_eq_true rfl) d_X11_settle_95 ?_
            refine gb_goto 0 d_X11_settle_98 (by decide) ?_
            exact ih _ y1 h
          · have h := gb_it hc h
            exact t_X11_settle_63 hS (fun w w0 hw => ih w w0 hw) _ y1 h
set_option maxRecDepth 100000 in
set_option maxHeartbeats 4000000 in
theorem t_X11_settle {Γ : gb_X} {sh : List gb_Sh} {x1 : Int32} {out : gb_G} (hS : gb_S sh) {g : gb_G} (h : f_X11_settle sh g x1 = some out) : gb_C Γ M_X11_settle 1 0 0 sh g [.ref 77, .int x1] (gb_Rv sh out) := by
  refine gb_C.of rfl (Nat.le_of_ble_eq_true rfl) ?_
  refine gb_pick (lv' := [(0, .ref 77), (1, .int x1)]) [0, 1] rfl ?_
  unfold f_X11_settle at h
  refine gb_aload_n d_X11_settle_0 rfl ?_
  refine gb_geti f_X11_264 (hS 77 _ rfl) rfl d_X11_settle_1 ?_
  refine gb_if_le 101 d_X11_settle_4 (by decide) (fun hc => ?_) (fun hc => ?_)
  · have h := gb_it hc h
    cases h
    exact gb_vret d_X11_settle_101 rfl ⟨rfl, rfl, rfl⟩
  · have h := gb_if hc h
    refine gb_aload_n d_X11_settle_7 rfl ?_
    refine gb_getr (r := 90) f_X11_51 (hS 77 _ rfl) rfl d_X11_settle_8 ?_
    refine gb_aload_n d_X11_settle_11 rfl ?_
    refine gb_geti f_X11_264 (hS 77 _ rfl) rfl d_X11_settle_12 ?_
    refine gb_iconst 1 d_X11_settle_15 rfl ?_
    refine gb_isub d_X11_settle_16 ?_
    obtain ⟨hi1, h⟩ := gb_ck_e h
    refine gb_iald_ (((g.1 77 29) - 1).toNatClampNeg) rfl (hS 90 _ rfl) hi1 d_X11_settle_17 ?_
    obtain ⟨r2, e3, h⟩ := gb_bd_e h
    refine gb_cSi (As := [.int (g.1 90 (((g.1 77 29) - 1).toNatClampNeg))]) (rest := []) m_X11_267 (t_X11_binds (Γ := Γ) hS e3) (Nat.le_of_ble_eq_true rfl) rfl rfl (Nat.le_of_ble_eq_true rfl) d_X11_settle_18 ?_
    refine gb_iload_n d_X11_settle_21 rfl ?_
    refine gb_icmp_lt 101 d_X11_settle_22 (by decide) (fun hc => ?_) (fun hc => ?_)
    · have h := gb_it hc h
      cases h
      exact gb_vret d_X11_settle_101 rfl ⟨rfl, rfl, rfl⟩
    · have h := gb_if hc h
      refine gb_aload_n d_X11_settle_25 rfl ?_
      refine gb_dup d_X11_settle_26 rfl ?_
      refine gb_geti f_X11_264 (hS 77 _ rfl) rfl d_X11_settle_27 ?_
      refine gb_iconst 1 d_X11_settle_30 rfl ?_
      refine gb_isub d_X11_settle_31 ?_
      refine gb_puti f_X11_264 (fun h => nomatch h) (hS 77 _ rfl) rfl rfl rfl d_X11_settle_32 ?_
      have h := gb_let_e h
      generalize gb_pi r2.1 77 29 ((r2.1.1 77 29) - 1) = g4 at h ⊢
      refine gb_aload_n d_X11_settle_35 rfl ?_
      refine gb_getr (r := 90) f_X11_51 (hS 77 _ rfl) rfl d_X11_settle_36 ?_
      refine gb_aload_n d_X11_settle_39 rfl ?_
      refine gb_geti f_X11_264 (hS 77 _ rfl) rfl d_X11_settle_40 ?_
      obtain ⟨hi5, h⟩ := gb_ck_e h
      refine gb_iald_ ((g4.1 77 29).toNatClampNeg) rfl (hS 90 _ rfl) hi5 d_X11_settle_43 ?_
      refine gb_bipush 29 d_X11_settle_44 rfl ?_
      refine gb_icmp_eq 63 d_X11_settle_46 (by decide) (fun hc => ?_) (fun hc => ?_)
      · have h := gb_it hc h
        exact t_X11_settle_63 hS (fun w w0 hw => t_X11_settle_0 hS  gb_N w w0 hw) _ x1 h
      · have h := gb_if hc h
        refine gb_aload_n d_X11_settle_49 rfl ?_
        refine gb_getr (r := 90) f_X11_51 (hS 77 _ rfl) rfl d_X11_settle_50 ?_
        refine gb_aload_n d_X11_settle_53 rfl ?_
        refine gb_geti f_X11_264 (hS 77 _ rfl) rfl d_X11_settle_54 ?_
        obtain ⟨hi18, h⟩ := gb_ck_e h
        refine gb_iald_ ((g4.1 77 29).toNatClampNeg) rfl (hS 90 _ rfl) hi18 d_X11_settle_57 ?_
        refine gb_bipush 30 d_X11_settle_58 rfl ?_
        refine gb_icmp_ne 84 d_X11_settle_60 (by decide) (fun hc => ?_) (fun hc => ?_)
        · have h := gb_if hc h
          refine gb_aload_n d_X11_settle_84 rfl ?_
          refine gb_aload_n d_X11_settle_85 rfl ?_
          refine gb_getr (r := 90) f_X11_51 (hS 77 _ rfl) rfl d_X11_settle_86 ?_
          refine gb_aload_n d_X11_settle_89 rfl ?_
          refine gb_geti f_X11_264 (hS 77 _ rfl) rfl d_X11_settle_90 ?_
          obtain ⟨hi19, h⟩ := gb_ck_e h
          refine gb_iald_ ((g4.1 77 29).toNatClampNeg) rfl (hS 90 _ rfl) hi19 d_X11_settle_93 ?_
          refine gb_iconst 0 d_X11_settle_94 rfl ?_
          obtain ⟨r20, e21, h⟩ := gb_bd_e h
          refine gb_cVv (As := [.int (g4.1 90 ((g4.1 77 29).toNatClampNeg)), .int 0]) (rest := []) m_X11_270 (t_X11_emit (Γ := Γ) hS e21) (hS 77 _ rfl) rfl (Nat.le_of_ble_eq_true rfl) rfl rfl (Nat.le_of_ble_eq_true rfl) d_X11_settle_95 ?_
          refine gb_goto 0 d_X11_settle_98 (by decide) ?_
          exact t_X11_settle_0 hS  gb_N _ x1 h
        · have h := gb_it hc h
          exact t_X11_settle_63 hS (fun w w0 hw => t_X11_settle_0 hS  gb_N w w0 hw) _ x1 h
-- X11_inner
noncomputable def f_X11_inner_33 (sh : List gb_Sh) (K4 : gb_G → Int32 → Int32 → Option (gb_G × Int32)) (g : gb_G) (y2 : Int32) (z0 : Int32) : Option (gb_G × Int32) := K4 g z0 (y2 + 1)
noncomputable def f_X11_inner_4 (sh : List gb_Sh) : Nat → gb_G → Int32 → Int32 → Option (gb_G × Int32)
  | 0, _, _, _ => none
  | n + 1, g, y1, y2 => if (g.1 77 29) ≤ y2 then (some (g, y1)) else (gb_ck y2 400 (if (g.1 90 y2.toNatClampNeg) < 31 then (f_X11_inner_33 sh (fun w w0 w1 => f_X11_inner_4 sh n w w0 w1) g y2 y1) else (gb_ck y2 400 (f_X11_inner_33 sh (fun w w0 w1 => f_X11_inner_4 sh n w w0 w1) g y2 (g.1 90 y2.toNatClampNeg)))))
noncomputable def f_X11_inner (sh : List gb_Sh) (g : gb_G) : Option (gb_G × Int32) := f_X11_inner_4 sh gb_N g (-1) 0
set_option maxRecDepth 100000 in
set_option maxHeartbeats 4000000 in
theorem t_X11_inner_33 {Γ : gb_X} {sh : List gb_Sh} {out : gb_G × Int32} (hS : gb_S sh) {K4 : gb_G → Int32 → Int32 → Option (gb_G × Int32)} (hK4 : ∀ (g : gb_G) (y1 : Int32) (y2 : Int32), K4 g y1 y2 = some out → gb_J Γ M_X11_inner 0 (gb_Ri sh out) 0 0 sh g 4 [(0, .ref 77), (1, .int y1), (2, .int y2)] []) : ∀ (g : gb_G) (y2 : Int32) (z0 : Int32), f_X11_inner_33 sh K4 g y2 z0 = some out → gb_J Γ M_X11_inner 0 (gb_Ri sh out) 0 0 sh g 33 [(0, .ref 77), (2, .int y2)] [.int z0] := by
  intro g y2 z0 h
  unfold f_X11_inner_33 at h
  refine gb_istore_n [(1, .int z0), (0, .ref 77), (2, .int y2)] d_X11_inner_33 (Nat.le_of_ble_eq_true rfl) rfl ?_
  refine gb_iinc (y2 + 1) [(2, .int (y2 + 1)), (1, .int z0), (0, .ref 77)] d_X11_inner_34 (Nat.le_of_ble_eq_true rfl) rfl rfl rfl ?_
  refine gb_goto 4 d_X11_inner_37 (by decide) ?_
  refine gb_pick (lv' := [(0, .ref 77), (1, .int z0), (2, .int (y2 + 1))]) [2, 1, 0] rfl ?_
  exact hK4 _ z0 (y2 + 1) h
set_option maxRecDepth 100000 in
set_option maxHeartbeats 4000000 in
theorem t_X11_inner_4 {Γ : gb_X} {sh : List gb_Sh} {out : gb_G × Int32} (hS : gb_S sh) : ∀ (n : Nat) (g : gb_G) (y1 : Int32) (y2 : Int32), f_X11_inner_4 sh n g y1 y2 = some out → gb_J Γ M_X11_inner 0 (gb_Ri sh out) 0 0 sh g 4 [(0, .ref 77), (1, .int y1), (2, .int y2)] [] := by
  intro n
  induction n with
  | zero => intro g y1 y2 h; cases h
  | succ n ih =>
    intro g y1 y2 h
    rw [f_X11_inner_4] at h
    refine gb_iload_n d_X11_inner_4 rfl ?_
    refine gb_aload_n d_X11_inner_5 rfl ?_
    refine gb_geti f_X11_264 (hS 77 _ rfl) rfl d_X11_inner_6 ?_
    refine gb_icmp_ge 40 d_X11_inner_9 (by decide) (fun hc => ?_) (fun hc => ?_)
    · have h := gb_it hc h
      refine gb_iload_n d_X11_inner_40 rfl ?_
      cases h
      exact gb_iret d_X11_inner_41 rfl ⟨rfl, rfl, rfl⟩
    · have h := gb_if hc h
      refine gb_aload_n d_X11_inner_12 rfl ?_
      refine gb_getr (r := 90) f_X11_51 (hS 77 _ rfl) rfl d_X11_inner_13 ?_
      refine gb_iload_n d_X11_inner_16 rfl ?_
      obtain ⟨hi1, h⟩ := gb_ck_e h
      refine gb_iald_ y2.toNatClampNeg rfl (hS 90 _ rfl) hi1 d_X11_inner_17 ?_
      refine gb_bipush 31 d_X11_inner_18 rfl ?_
      refine gb_icmp_lt 32 d_X11_inner_20 (by decide) (fun hc => ?_) (fun hc => ?_)
      · have h := gb_it hc h
        refine gb_iload_n d_X11_inner_32 rfl ?_
        refine gb_pick (lv' := [(0, .ref 77), (2, .int y2)]) [0, 2] rfl ?_
        exact t_X11_inner_33 hS (fun w w0 w1 hw => ih w w0 w1 hw) _ y2 y1 h
      · have h := gb_if hc h
        refine gb_aload_n d_X11_inner_23 rfl ?_
        refine gb_getr (r := 90) f_X11_51 (hS 77 _ rfl) rfl d_X11_inner_24 ?_
        refine gb_iload_n d_X11_inner_27 rfl ?_
        obtain ⟨hi2, h⟩ := gb_ck_e h
        refine gb_iald_ y2.toNatClampNeg rfl (hS 90 _ rfl) hi2 d_X11_inner_28 ?_
        refine gb_goto 33 d_X11_inner_29 (by decide) ?_
        refine gb_pick (lv' := [(0, .ref 77), (2, .int y2)]) [0, 2] rfl ?_
        exact t_X11_inner_33 hS (fun w w0 w1 hw => ih w w0 w1 hw) _ y2 (g.1 90 y2.toNatClampNeg) h
set_option maxRecDepth 100000 in
set_option maxHeartbeats 4000000 in
theorem t_X11_inner {Γ : gb_X} {sh : List gb_Sh} {out : gb_G × Int32} (hS : gb_S sh) {g : gb_G} (h : f_X11_inner sh g = some out) : gb_C Γ M_X11_inner 0 0 0 sh g [.ref 77] (gb_Ri sh out) := by
  refine gb_C.of rfl (Nat.le_of_ble_eq_true rfl) ?_
  refine gb_pick (lv' := [(0, .ref 77)]) [0] rfl ?_
  unfold f_X11_inner at h
  refine gb_iconst (-1) d_X11_inner_0 rfl ?_
  refine gb_istore_n [(1, .int (-1)), (0, .ref 77)] d_X11_inner_1 (Nat.le_of_ble_eq_true rfl) rfl ?_
  refine gb_iconst 0 d_X11_inner_2 rfl ?_
  refine gb_istore_n [(2, .int 0), (1, .int (-1)), (0, .ref 77)] d_X11_inner_3 (Nat.le_of_ble_eq_true rfl) rfl ?_
  refine gb_pick (lv' := [(0, .ref 77), (1, .int (-1)), (2, .int 0)]) [2, 1, 0] rfl ?_
  exact t_X11_inner_4 hS  gb_N _ (-1) 0 h
-- X11_isCompared
noncomputable def f_X11_isCompared_36 (sh : List gb_Sh) (g : gb_G) (y1 : Int32) : Option (gb_G × Int32) := if y1 < 0 then (some (g, 0)) else (gb_ck y1 400 (gb_bd (f_X11_in sh g ((g.1 90 y1.toNatClampNeg).toInt64) 25 27) (fun r2 => if r2.2 = 0 then (some (r2.1, 0)) else (some (r2.1, 1)))))
noncomputable def f_X11_isCompared_7 (sh : List gb_Sh) : Nat → gb_G → Int32 → Option (gb_G × Int32)
  | 0, _, _ => none
  | n + 1, g, y1 => if y1 < 0 then (f_X11_isCompared_36 sh g y1) else (gb_ck y1 400 (gb_bd (f_X11_in sh g ((g.1 90 y1.toNatClampNeg).toInt64) 20 24) (fun r5 => if r5.2 = 0 then (f_X11_isCompared_36 sh r5.1 y1) else (f_X11_isCompared_7 sh n r5.1 (y1 + (-1))))))
noncomputable def f_X11_isCompared (sh : List gb_Sh) (g : gb_G) : Option (gb_G × Int32) := f_X11_isCompared_7 sh gb_N g ((g.1 77 29) - 1)
set_option maxRecDepth 100000 in
set_option maxHeartbeats 4000000 in
theorem t_X11_isCompared_36 {Γ : gb_X} {sh : List gb_Sh} {out : gb_G × Int32} (hS : gb_S sh) : ∀ (g : gb_G) (y1 : Int32), f_X11_isCompared_36 sh g y1 = some out → gb_J Γ M_X11_isCompared 1 (gb_Ri sh out) 0 0 sh g 36 [(0, .ref 77), (1, .int y1)] [] := by
  intro g y1 h
  unfold f_X11_isCompared_36 at h
  refine gb_iload_n d_X11_isCompared_36 rfl ?_
  refine gb_if_lt 63 d_X11_isCompared_37 (by decide) (fun hc => ?_) (fun hc => ?_)
  · have h := gb_it hc h
    refine gb_iconst 0 d_X11_isCompared_63 rfl ?_
    cases h
    exact gb_zret d_X11_isCompared_64 rfl rfl ⟨rfl, rfl, rfl⟩
  · have h := gb_if hc h
    refine gb_aload_n d_X11_isCompared_40 rfl ?_
    refine gb_getr (r := 90) f_X11_51 (hS 77 _ rfl) rfl d_X11_isCompared_41 ?_
    refine gb_iload_n d_X11_isCompared_44 rfl ?_
    obtain ⟨hi1, h⟩ := gb_ck_e h
    refine gb_iald_ y1.toNatClampNeg rfl (hS 90 _ rfl) hi1 d_X11_isCompared_45 ?_
    refine gb_i2l d_X11_isCompared_46 ?_
    refine gb_ldc2 25 k_X11_276 d_X11_isCompared_47 ?_
    refine gb_ldc2 27 k_X11_278 d_X11_isCompared_50 ?_
    obtain ⟨r2, e3, h⟩ := gb_bd_e h
    refine gb_cSi (As := [.long ((g.1 90 y1.toNatClampNeg).toInt64), .long 25, .long 27]) (rest := []) m_X11_165 (t_X11_in (Γ := Γ) hS e3) (Nat.le_of_ble_eq_true rfl) rfl rfl (Nat.le_of_ble_eq_true rfl) d_X11_isCompared_53 ?_
    refine gb_if_eq 63 d_X11_isCompared_56 (by decide) (fun hc => ?_) (fun hc => ?_)
    · have h := gb_it hc h
      refine gb_iconst 0 d_X11_isCompared_63 rfl ?_
      cases h
      exact gb_zret d_X11_isCompared_64 rfl rfl ⟨rfl, rfl, rfl⟩
    · have h := gb_if hc h
      refine gb_iconst 1 d_X11_isCompared_59 rfl ?_
      refine gb_goto 64 d_X11_isCompared_60 (by decide) ?_
      cases h
      exact gb_zret d_X11_isCompared_64 rfl rfl ⟨rfl, rfl, rfl⟩
set_option maxRecDepth 100000 in
set_option maxHeartbeats 4000000 in
theorem t_X11_isCompared_7 {Γ : gb_X} {sh : List gb_Sh} {out : gb_G × Int32} (hS : gb_S sh) : ∀ (n : Nat) (g : gb_G) (y1 : Int32), f_X11_isCompared_7 sh n g y1 = some out → gb_J Γ M_X11_isCompared 1 (gb_Ri sh out) 0 0 sh g 7 [(0, .ref 77), (1, .int y1)] [] := by
  intro n
  induction n with
  | zero => intro g y1 h; cases h
  | succ n ih =>
    intro g y1 h
    rw [f_X11_isCompared_7] at h
    refine gb_iload_n d_X11_isCompared_7 rfl ?_
    refine gb_if_lt 36 d_X11_isCompared_8 (by decide) (fun hc => ?_) (fun hc => ?_)
    · have h := gb_it hc h
      exact t_X11_isCompared_36 hS  _ y1 h
    · have h := gb_if hc h
      refine gb_aload_n d_X11_isCompared_11 rfl ?_
      refine gb_getr (r := 90) f_X11_51 (hS 77 _ rfl) rfl d_X11_isCompared_12 ?_
      refine gb_iload_n d_X11_isCompared_15 rfl ?_
      obtain ⟨hi4, h⟩ := gb_ck_e h
      refine gb_iald_ y1.toNatClampNeg rfl (hS 90 _ rfl) hi4 d_X11_isCompared_16 ?_
      refine gb_i2l d_X11_isCompared_17 ?_
      refine gb_ldc2 20 k_X11_274 d_X11_isCompared_18 ?_
      refine gb_ldc2 24 k_X11_178 d_X11_isCompared_21 ?_
      obtain ⟨r5, e6, h⟩ := gb_bd_e h
      refine gb_cSi (As := [.long ((g.1 90 y1.toNatClampNeg).toInt64), .long 20, .long 24]) (rest := []) m_X11_165 (t_X11_in (Γ := Γ) hS e6) (Nat.le_of_ble_eq_true rfl) rfl rfl (Nat.le_of_ble_eq_true rfl) d_X11_isCompared_24 ?_
      refine gb_if_eq 36 d_X11_isCompared_27 (by decide) (fun hc => ?_) (fun hc => ?_)
      · have h := gb_it hc h
        exact t_X11_isCompared_36 hS  _ y1 h
      · have h := gb_if hc h
        refine gb_iinc (y1 + (-1)) [(1, .int (y1 + (-1))), (0, .ref 77)] d_X11_isCompared_30 (Nat.le_of_ble_eq_true rfl) rfl rfl rfl ?_
        refine gb_goto 7 d_X11_isCompared_33 (by decide) ?_
        refine gb_pick (lv' := [(0, .ref 77), (1, .int (y1 + (-1)))]) [1, 0] rfl ?_
        exact ih _ (y1 + (-1)) h
set_option maxRecDepth 100000 in
set_option maxHeartbeats 4000000 in
theorem t_X11_isCompared {Γ : gb_X} {sh : List gb_Sh} {out : gb_G × Int32} (hS : gb_S sh) {g : gb_G} (h : f_X11_isCompared sh g = some out) : gb_C Γ M_X11_isCompared 1 0 0 sh g [.ref 77] (gb_Ri sh out) := by
  refine gb_C.of rfl (Nat.le_of_ble_eq_true rfl) ?_
  refine gb_pick (lv' := [(0, .ref 77)]) [0] rfl ?_
  unfold f_X11_isCompared at h
  refine gb_aload_n d_X11_isCompared_0 rfl ?_
  refine gb_geti f_X11_264 (hS 77 _ rfl) rfl d_X11_isCompared_1 ?_
  refine gb_iconst 1 d_X11_isCompared_4 rfl ?_
  refine gb_isub d_X11_isCompared_5 ?_
  refine gb_istore_n [(1, .int ((g.1 77 29) - 1)), (0, .ref 77)] d_X11_isCompared_6 (Nat.le_of_ble_eq_true rfl) rfl ?_
  refine gb_pick (lv' := [(0, .ref 77), (1, .int ((g.1 77 29) - 1))]) [1, 0] rfl ?_
  exact t_X11_isCompared_7 hS  gb_N _ ((g.1 77 29) - 1) h
-- X11_partAt
noncomputable def f_X11_partAt_30 (sh : List gb_Sh) (K4 : gb_G → Int32 → Int32 → Option (gb_G × Int32)) (g : gb_G) (y2 : Int32) (z0 : Int32) : Option (gb_G × Int32) := K4 g z0 (y2 + 1)
noncomputable def f_X11_partAt_4 (sh : List gb_Sh) : Nat → gb_G → Int32 → Int32 → Option (gb_G × Int32)
  | 0, _, _, _ => none
  | n + 1, g, y1, y2 => if 9 ≤ y2 then (some (g, y1)) else (gb_ck y2 9 (gb_bd (f_X11_isWord sh g (g.2.1 92 y2.toNatClampNeg)) (fun r2 => if r2.2 = 0 then (f_X11_partAt_30 sh (fun w w0 w1 => f_X11_partAt_4 sh n w w0 w1) r2.1 y2 y1) else (f_X11_partAt_30 sh (fun w w0 w1 => f_X11_partAt_4 sh n w w0 w1) r2.1 y2 (y2 + 1)))))
noncomputable def f_X11_partAt (sh : List gb_Sh) (g : gb_G) : Option (gb_G × Int32) := f_X11_partAt_4 sh gb_N g (-1) 0
set_option maxRecDepth 100000 in
set_option maxHeartbeats 4000000 in
theorem t_X11_partAt_30 {Γ : gb_X} {sh : List gb_Sh} {out : gb_G × Int32} (hS : gb_S sh) {K4 : gb_G → Int32 → Int32 → Option (gb_G × Int32)} (hK4 : ∀ (g : gb_G) (y1 : Int32) (y2 : Int32), K4 g y1 y2 = some out → gb_J Γ M_X11_partAt 1 (gb_Ri sh out) 0 0 sh g 4 [(0, .ref 77), (1, .int y1), (2, .int y2)] []) : ∀ (g : gb_G) (y2 : Int32) (z0 : Int32), f_X11_partAt_30 sh K4 g y2 z0 = some out → gb_J Γ M_X11_partAt 1 (gb_Ri sh out) 0 0 sh g 30 [(0, .ref 77), (2, .int y2)] [.int z0] := by
  intro g y2 z0 h
  unfold f_X11_partAt_30 at h
  refine gb_istore_n [(1, .int z0), (0, .ref 77), (2, .int y2)] d_X11_partAt_30 (Nat.le_of_ble_eq_true rfl) rfl ?_
  refine gb_iinc (y2 + 1) [(2, .int (y2 + 1)), (1, .int z0), (0, .ref 77)] d_X11_partAt_31 (Nat.le_of_ble_eq_true rfl) rfl rfl rfl ?_
  refine gb_goto 4 d_X11_partAt_34 (by decide) ?_
  refine gb_pick (lv' := [(0, .ref 77), (1, .int z0), (2, .int (y2 + 1))]) [2, 1, 0] rfl ?_
  exact hK4 _ z0 (y2 + 1) h
set_option maxRecDepth 100000 in
set_option maxHeartbeats 4000000 in
theorem t_X11_partAt_4 {Γ : gb_X} {sh : List gb_Sh} {out : gb_G × Int32} (hS : gb_S sh) : ∀ (n : Nat) (g : gb_G) (y1 : Int32) (y2 : Int32), f_X11_partAt_4 sh n g y1 y2 = some out → gb_J Γ M_X11_partAt 1 (gb_Ri sh out) 0 0 sh g 4 [(0, .ref 77), (1, .int y1), (2, .int y2)] [] := by
  intro n
  induction n with
  | zero => intro g y1 y2 h; cases h
  | succ n ih =>
    intro g y1 y2 h
    rw [f_X11_partAt_4] at h
    refine gb_iload_n d_X11_partAt_4 rfl ?_
    refine gb_bipush 9 d_X11_partAt_5 rfl ?_
    refine gb_icmp_ge 37 d_X11_partAt_7 (by decide) (fun hc => ?_) (fun hc => ?_)
    · have h := gb_it hc h
      refine gb_iload_n d_X11_partAt_37 rfl ?_
      cases h
      exact gb_iret d_X11_partAt_38 rfl ⟨rfl, rfl, rfl⟩
    · have h := gb_if hc h
      refine gb_aload_n d_X11_partAt_10 rfl ?_
      refine gb_aload_n d_X11_partAt_11 rfl ?_
      refine gb_getr (r := 92) f_X11_75 (hS 77 _ rfl) rfl d_X11_partAt_12 ?_
      refine gb_iload_n d_X11_partAt_15 rfl ?_
      obtain ⟨hi1, h⟩ := gb_ck_e h
      refine gb_lald_ y2.toNatClampNeg rfl (hS 92 _ rfl) hi1 d_X11_partAt_16 ?_
      obtain ⟨r2, e3, h⟩ := gb_bd_e h
      refine gb_cVi (As := [.long (g.2.1 92 y2.toNatClampNeg)]) (rest := []) m_X11_280 (t_X11_isWord (Γ := Γ) hS e3) (hS 77 _ rfl) rfl (Nat.le_of_ble_eq_true rfl) rfl rfl (Nat.le_of_ble_eq_true rfl) d_X11_partAt_17 ?_
      refine gb_if_eq 29 d_X11_partAt_20 (by decide) (fun hc => ?_) (fun hc => ?_)
      · have h := gb_it hc h
        refine gb_iload_n d_X11_partAt_29 rfl ?_
        refine gb_pick (lv' := [(0, .ref 77), (2, .int y2)]) [0, 2] rfl ?_
        exact t_X11_partAt_30 hS (fun w w0 w1 hw => ih w w0 w1 hw) _ y2 y1 h
      · have h := gb_if hc h
        refine gb_iload_n d_X11_partAt_23 rfl ?_
        refine gb_iconst 1 d_X11_partAt_24 rfl ?_
        refine gb_iadd d_X11_partAt_25 ?_
        refine gb_goto 30 d_X11_partAt_26 (by decide) ?_
        refine gb_pick (lv' := [(0, .ref 77), (2, .int y2)]) [0, 2] rfl ?_
        exact t_X11_partAt_30 hS (fun w w0 w1 hw => ih w w0 w1 hw) _ y2 (y2 + 1) h
set_option maxRecDepth 100000 in
set_option maxHeartbeats 4000000 in
theorem t_X11_partAt {Γ : gb_X} {sh : List gb_Sh} {out : gb_G × Int32} (hS : gb_S sh) {g : gb_G} (h : f_X11_partAt sh g = some out) : gb_C Γ M_X11_partAt 1 0 0 sh g [.ref 77] (gb_Ri sh out) := by
  refine gb_C.of rfl (Nat.le_of_ble_eq_true rfl) ?_
  refine gb_pick (lv' := [(0, .ref 77)]) [0] rfl ?_
  unfold f_X11_partAt at h
  refine gb_iconst (-1) d_X11_partAt_0 rfl ?_
  refine gb_istore_n [(1, .int (-1)), (0, .ref 77)] d_X11_partAt_1 (Nat.le_of_ble_eq_true rfl) rfl ?_
  refine gb_iconst 0 d_X11_partAt_2 rfl ?_
  refine gb_istore_n [(2, .int 0), (1, .int (-1)), (0, .ref 77)] d_X11_partAt_3 (Nat.le_of_ble_eq_true rfl) rfl ?_
  refine gb_pick (lv' := [(0, .ref 77), (1, .int (-1)), (2, .int 0)]) [2, 1, 0] rfl ?_
  exact t_X11_partAt_4 hS  gb_N _ (-1) 0 h
-- X11_orderPartAt
noncomputable def f_X11_orderPartAt_30 (sh : List gb_Sh) (K4 : gb_G → Int32 → Int32 → Option (gb_G × Int32)) (g : gb_G) (y2 : Int32) (z0 : Int32) : Option (gb_G × Int32) := K4 g z0 (y2 + 1)
noncomputable def f_X11_orderPartAt_4 (sh : List gb_Sh) : Nat → gb_G → Int32 → Int32 → Option (gb_G × Int32)
  | 0, _, _, _ => none
  | n + 1, g, y1, y2 => if 7 ≤ y2 then (some (g, y1)) else (gb_ck y2 7 (gb_bd (f_X11_isWord sh g (g.2.1 93 y2.toNatClampNeg)) (fun r2 => if r2.2 = 0 then (f_X11_orderPartAt_30 sh (fun w w0 w1 => f_X11_orderPartAt_4 sh n w w0 w1) r2.1 y2 y1) else (f_X11_orderPartAt_30 sh (fun w w0 w1 => f_X11_orderPartAt_4 sh n w w0 w1) r2.1 y2 (y2 + 1)))))
noncomputable def f_X11_orderPartAt (sh : List gb_Sh) (g : gb_G) : Option (gb_G × Int32) := f_X11_orderPartAt_4 sh gb_N g (-1) 0
set_option maxRecDepth 100000 in
set_option maxHeartbeats 4000000 in
theorem t_X11_orderPartAt_30 {Γ : gb_X} {sh : List gb_Sh} {out : gb_G × Int32} (hS : gb_S sh) {K4 : gb_G → Int32 → Int32 → Option (gb_G × Int32)} (hK4 : ∀ (g : gb_G) (y1 : Int32) (y2 : Int32), K4 g y1 y2 = some out → gb_J Γ M_X11_orderPartAt 1 (gb_Ri sh out) 0 0 sh g 4 [(0, .ref 77), (1, .int y1), (2, .int y2)] []) : ∀ (g : gb_G) (y2 : Int32) (z0 : Int32), f_X11_orderPartAt_30 sh K4 g y2 z0 = some out → gb_J Γ M_X11_orderPartAt 1 (gb_Ri sh out) 0 0 sh g 30 [(0, .ref 77), (2, .int y2)] [.int z0] := by
  intro g y2 z0 h
  unfold f_X11_orderPartAt_30 at h
  refine gb_istore_n [(1, .int z0), (0, .ref 77), (2, .int y2)] d_X11_orderPartAt_30 (Nat.le_of_ble_eq_true rfl) rfl ?_
  refine gb_iinc (y2 + 1) [(2, .int (y2 + 1)), (1, .int z0), (0, .ref 77)] d_X11_orderPartAt_31 (Nat.le_of_ble_eq_true rfl) rfl rfl rfl ?_
  refine gb_goto 4 d_X11_orderPartAt_34 (by decide) ?_
  refine gb_pick (lv' := [(0, .ref 77), (1, .int z0), (2, .int (y2 + 1))]) [2, 1, 0] rfl ?_
  exact hK4 _ z0 (y2 + 1) h
set_option maxRecDepth 100000 in
set_option maxHeartbeats 4000000 in
theorem t_X11_orderPartAt_4 {Γ : gb_X} {sh : List gb_Sh} {out : gb_G × Int32} (hS : gb_S sh) : ∀ (n : Nat) (g : gb_G) (y1 : Int32) (y2 : Int32), f_X11_orderPartAt_4 sh n g y1 y2 = some out → gb_J Γ M_X11_orderPartAt 1 (gb_Ri sh out) 0 0 sh g 4 [(0, .ref 77), (1, .int y1), (2, .int y2)] [] := by
  intro n
  induction n with
  | zero => intro g y1 y2 h; cases h
  | succ n ih =>
    intro g y1 y2 h
    rw [f_X11_orderPartAt_4] at h
    refine gb_iload_n d_X11_orderPartAt_4 rfl ?_
    refine gb_bipush 7 d_X11_orderPartAt_5 rfl ?_
    refine gb_icmp_ge 37 d_X11_orderPartAt_7 (by decide) (fun hc => ?_) (fun hc => ?_)
    · have h := gb_it hc h
      refine gb_iload_n d_X11_orderPartAt_37 rfl ?_
      cases h
      exact gb_iret d_X11_orderPartAt_38 rfl ⟨rfl, rfl, rfl⟩
    · have h := gb_if hc h
      refine gb_aload_n d_X11_orderPartAt_10 rfl ?_
      refine gb_aload_n d_X11_orderPartAt_11 rfl ?_
      refine gb_getr (r := 93) f_X11_87 (hS 77 _ rfl) rfl d_X11_orderPartAt_12 ?_
      refine gb_iload_n d_X11_orderPartAt_15 rfl ?_
      obtain ⟨hi1, h⟩ := gb_ck_e h
      refine gb_lald_ y2.toNatClampNeg rfl (hS 93 _ rfl) hi1 d_X11_orderPartAt_16 ?_
      obtain ⟨r2, e3, h⟩ := gb_bd_e h
      refine gb_cVi (As := [.long (g.2.1 93 y2.toNatClampNeg)]) (rest := []) m_X11_280 (t_X11_isWord (Γ := Γ) hS e3) (hS 77 _ rfl) rfl (Nat.le_of_ble_eq_true rfl) rfl rfl (Nat.le_of_ble_eq_true rfl) d_X11_orderPartAt_17 ?_
      refine gb_if_eq 29 d_X11_orderPartAt_20 (by decide) (fun hc => ?_) (fun hc => ?_)
      · have h := gb_it hc h
        refine gb_iload_n d_X11_orderPartAt_29 rfl ?_
        refine gb_pick (lv' := [(0, .ref 77), (2, .int y2)]) [0, 2] rfl ?_
        exact t_X11_orderPartAt_30 hS (fun w w0 w1 hw => ih w w0 w1 hw) _ y2 y1 h
      · have h := gb_if hc h
        refine gb_iload_n d_X11_orderPartAt_23 rfl ?_
        refine gb_iconst 1 d_X11_orderPartAt_24 rfl ?_
        refine gb_iadd d_X11_orderPartAt_25 ?_
        refine gb_goto 30 d_X11_orderPartAt_26 (by decide) ?_
        refine gb_pick (lv' := [(0, .ref 77), (2, .int y2)]) [0, 2] rfl ?_
        exact t_X11_orderPartAt_30 hS (fun w w0 w1 hw => ih w w0 w1 hw) _ y2 (y2 + 1) h
set_option maxRecDepth 100000 in
set_option maxHeartbeats 4000000 in
theorem t_X11_orderPartAt {Γ : gb_X} {sh : List gb_Sh} {out : gb_G × Int32} (hS : gb_S sh) {g : gb_G} (h : f_X11_orderPartAt sh g = some out) : gb_C Γ M_X11_orderPartAt 1 0 0 sh g [.ref 77] (gb_Ri sh out) := by
  refine gb_C.of rfl (Nat.le_of_ble_eq_true rfl) ?_
  refine gb_pick (lv' := [(0, .ref 77)]) [0] rfl ?_
  unfold f_X11_orderPartAt at h
  refine gb_iconst (-1) d_X11_orderPartAt_0 rfl ?_
  refine gb_istore_n [(1, .int (-1)), (0, .ref 77)] d_X11_orderPartAt_1 (Nat.le_of_ble_eq_true rfl) rfl ?_
  refine gb_iconst 0 d_X11_orderPartAt_2 rfl ?_
  refine gb_istore_n [(2, .int 0), (1, .int (-1)), (0, .ref 77)] d_X11_orderPartAt_3 (Nat.le_of_ble_eq_true rfl) rfl ?_
  refine gb_pick (lv' := [(0, .ref 77), (1, .int (-1)), (2, .int 0)]) [2, 1, 0] rfl ?_
  exact t_X11_orderPartAt_4 hS  gb_N _ (-1) 0 h
-- X11_openBracket
noncomputable def f_X11_openBracket_15 (sh : List gb_Sh) (g : gb_G) (y1 : Int32) (z0 : Int32) : Option (gb_G) := gb_bd (f_X11_must sh g z0) (fun r1 => if (r1.1 77 19) = 0 then (gb_let (gb_pi r1 77 30 ((r1.1 77 30) + 1)) (fun g3 => gb_bd (f_X11_push sh g3 y1 0) (fun r4 => some r4))) else (some r1))
noncomputable def f_X11_openBracket (sh : List gb_Sh) (g : gb_G) (x1 : Int32) : Option (gb_G) := if 8 ≤ (g.1 77 30) then (f_X11_openBracket_15 sh g x1 0) else (f_X11_openBracket_15 sh g x1 1)
set_option maxRecDepth 100000 in
set_option maxHeartbeats 4000000 in
theorem t_X11_openBracket_15 {Γ : gb_X} {sh : List gb_Sh} {out : gb_G} (hS : gb_S sh) : ∀ (g : gb_G) (y1 : Int32) (z0 : Int32), f_X11_openBracket_15 sh g y1 z0 = some out → gb_J Γ M_X11_openBracket 3 (gb_Rv sh out) 0 0 sh g 15 [(0, .ref 77), (1, .int y1)] [.int z0, .ref 77] := by
  intro g y1 z0 h
  unfold f_X11_openBracket_15 at h
  obtain ⟨r1, e2, h⟩ := gb_bd_e h
  refine gb_cVv (As := [.int z0]) (rest := []) m_X11_257 (t_X11_must (Γ := Γ) hS e2) (hS 77 _ rfl) rfl (Nat.le_of_ble_eq_true rfl) rfl rfl (Nat.le_of_ble_eq_true rfl) d_X11_openBracket_15 ?_
  refine gb_aload_n d_X11_openBracket_18 rfl ?_
  refine gb_geti f_X11_224 (hS 77 _ rfl) rfl d_X11_openBracket_19 ?_
  refine gb_if_ne 41 d_X11_openBracket_22 (by decide) (fun hc => ?_) (fun hc => ?_)
  · have h := gb_if hc h
    cases h
    exact gb_vret d_X11_openBracket_41 rfl ⟨rfl, rfl, rfl⟩
  · have h := gb_it hc h
    refine gb_aload_n d_X11_openBracket_25 rfl ?_
    refine gb_dup d_X11_openBracket_26 rfl ?_
    refine gb_geti f_X11_284 (hS 77 _ rfl) rfl d_X11_openBracket_27 ?_
    refine gb_iconst 1 d_X11_openBracket_30 rfl ?_
    refine gb_iadd d_X11_openBracket_31 ?_
    refine gb_puti f_X11_284 (fun h => nomatch h) (hS 77 _ rfl) rfl rfl rfl d_X11_openBracket_32 ?_
    have h := gb_let_e h
    generalize gb_pi r1 77 30 ((r1.1 77 30) + 1) = g3 at h ⊢
    refine gb_aload_n d_X11_openBracket_35 rfl ?_
    refine gb_iload_n d_X11_openBracket_36 rfl ?_
    refine gb_iconst 0 d_X11_openBracket_37 rfl ?_
    obtain ⟨r4, e5, h⟩ := gb_bd_e h
    refine gb_cVv (As := [.int y1, .int 0]) (rest := []) m_X11_287 (t_X11_push (Γ := Γ) hS e5) (hS 77 _ rfl) rfl (Nat.le_of_ble_eq_true rfl) rfl rfl (Nat.le_of_ble_eq_true rfl) d_X11_openBracket_38 ?_
    cases h
    exact gb_vret d_X11_openBracket_41 rfl ⟨rfl, rfl, rfl⟩
set_option maxRecDepth 100000 in
set_option maxHeartbeats 4000000 in
theorem t_X11_openBracket {Γ : gb_X} {sh : List gb_Sh} {x1 : Int32} {out : gb_G} (hS : gb_S sh) {g : gb_G} (h : f_X11_openBracket sh g x1 = some out) : gb_C Γ M_X11_openBracket 3 0 0 sh g [.ref 77, .int x1] (gb_Rv sh out) := by
  refine gb_C.of rfl (Nat.le_of_ble_eq_true rfl) ?_
  refine gb_pick (lv' := [(0, .ref 77), (1, .int x1)]) [0, 1] rfl ?_
  unfold f_X11_openBracket at h
  refine gb_aload_n d_X11_openBracket_0 rfl ?_
  refine gb_aload_n d_X11_openBracket_1 rfl ?_
  refine gb_geti f_X11_284 (hS 77 _ rfl) rfl d_X11_openBracket_2 ?_
  refine gb_bipush 8 d_X11_openBracket_5 rfl ?_
  refine gb_icmp_ge 14 d_X11_openBracket_7 (by decide) (fun hc => ?_) (fun hc => ?_)
  · have h := gb_it hc h
    refine gb_iconst 0 d_X11_openBracket_14 rfl ?_
    exact t_X11_openBracket_15 hS  _ x1 0 h
  · have h := gb_if hc h
    refine gb_iconst 1 d_X11_openBracket_10 rfl ?_
    refine gb_goto 15 d_X11_openBracket_11 (by decide) ?_
    exact t_X11_openBracket_15 hS  _ x1 1 h
-- X11_leaf
noncomputable def f_X11_leaf_19 (sh : List gb_Sh) (g : gb_G) (y2 : Int32) (y3 : Int32) (z0 : Int32) : Option (gb_G) := gb_bd (f_X11_must sh g z0) (fun r1 => if (r1.1 77 19) = 0 then (gb_bd (f_X11_emit sh r1 y2 y3) (fun r3 => gb_let (gb_pi r3 77 26 ((r3.1 77 26) + 1)) (fun g5 => some g5))) else (some r1))
noncomputable def f_X11_leaf (sh : List gb_Sh) (g : gb_G) (x1 : Int32) (x2 : Int32) (x3 : Int32) : Option (gb_G) := if x1 = 0 then (f_X11_leaf_19 sh g x2 x3 0) else (if 50 ≤ (g.1 77 26) then (f_X11_leaf_19 sh g x2 x3 0) else (f_X11_leaf_19 sh g x2 x3 1))
set_option maxRecDepth 100000 in
set_option maxHeartbeats 4000000 in
theorem t_X11_leaf_19 {Γ : gb_X} {sh : List gb_Sh} {out : gb_G} (hS : gb_S sh) : ∀ (g : gb_G) (y2 : Int32) (y3 : Int32) (z0 : Int32), f_X11_leaf_19 sh g y2 y3 z0 = some out → gb_J Γ M_X11_leaf 3 (gb_Rv sh out) 0 0 sh g 19 [(0, .ref 77), (2, .int y2), (3, .int y3)] [.int z0, .ref 77] := by
  intro g y2 y3 z0 h
  unfold f_X11_leaf_19 at h
  obtain ⟨r1, e2, h⟩ := gb_bd_e h
  refine gb_cVv (As := [.int z0]) (rest := []) m_X11_257 (t_X11_must (Γ := Γ) hS e2) (hS 77 _ rfl) rfl (Nat.le_of_ble_eq_true rfl) rfl rfl (Nat.le_of_ble_eq_true rfl) d_X11_leaf_19 ?_
  refine gb_aload_n d_X11_leaf_22 rfl ?_
  refine gb_geti f_X11_224 (hS 77 _ rfl) rfl d_X11_leaf_23 ?_
  refine gb_if_ne 45 d_X11_leaf_26 (by decide) (fun hc => ?_) (fun hc => ?_)
  · have h := gb_if hc h
    cases h
    exact gb_vret d_X11_leaf_45 rfl ⟨rfl, rfl, rfl⟩
  · have h := gb_it hc h
    refine gb_aload_n d_X11_leaf_29 rfl ?_
    refine gb_iload_n d_X11_leaf_30 rfl ?_
    refine gb_iload_n d_X11_leaf_31 rfl ?_
    obtain ⟨r3, e4, h⟩ := gb_bd_e h
    refine gb_cVv (As := [.int y2, .int y3]) (rest := []) m_X11_270 (t_X11_emit (Γ := Γ) hS e4) (hS 77 _ rfl) rfl (Nat.le_of_ble_eq_true rfl) rfl rfl (Nat.le_of_ble_eq_true rfl) d_X11_leaf_32 ?_
    refine gb_aload_n d_X11_leaf_35 rfl ?_
    refine gb_dup d_X11_leaf_36 rfl ?_
    refine gb_geti f_X11_290 (hS 77 _ rfl) rfl d_X11_leaf_37 ?_
    refine gb_iconst 1 d_X11_leaf_40 rfl ?_
    refine gb_iadd d_X11_leaf_41 ?_
    refine gb_puti f_X11_290 (fun h => nomatch h) (hS 77 _ rfl) rfl rfl rfl d_X11_leaf_42 ?_
    have h := gb_let_e h
    generalize gb_pi r3 77 26 ((r3.1 77 26) + 1) = g5 at h ⊢
    cases h
    exact gb_vret d_X11_leaf_45 rfl ⟨rfl, rfl, rfl⟩
set_option maxRecDepth 100000 in
set_option maxHeartbeats 4000000 in
theorem t_X11_leaf {Γ : gb_X} {sh : List gb_Sh} {x1 : Int32} {x2 : Int32} {x3 : Int32} {out : gb_G} (hS : gb_S sh) {g : gb_G} (h : f_X11_leaf sh g x1 x2 x3 = some out) : gb_C Γ M_X11_leaf 3 0 0 sh g [.ref 77, .int x1, .int x2, .int x3] (gb_Rv sh out) := by
  refine gb_C.of rfl (Nat.le_of_ble_eq_true rfl) ?_
  refine gb_pick (lv' := [(0, .ref 77), (1, .int x1), (2, .int x2), (3, .int x3)]) [0, 1, 2, 3] rfl ?_
  unfold f_X11_leaf at h
  refine gb_aload_n d_X11_leaf_0 rfl ?_
  refine gb_iload_n d_X11_leaf_1 rfl ?_
  refine gb_if_eq 18 d_X11_leaf_2 (by decide) (fun hc => ?_) (fun hc => ?_)
  · have h := gb_it hc h
    refine gb_iconst 0 d_X11_leaf_18 rfl ?_
    refine gb_pick (lv' := [(0, .ref 77), (2, .int x2), (3, .int x3)]) [0, 2, 3] rfl ?_
    exact t_X11_leaf_19 hS  _ x2 x3 0 h
  · have h := gb_if hc h
    refine gb_aload_n d_X11_leaf_5 rfl ?_
    refine gb_geti f_X11_290 (hS 77 _ rfl) rfl d_X11_leaf_6 ?_
    refine gb_bipush 50 d_X11_leaf_9 rfl ?_
    refine gb_icmp_ge 18 d_X11_leaf_11 (by decide) (fun hc => ?_) (fun hc => ?_)
    · have h := gb_it hc h
      refine gb_iconst 0 d_X11_leaf_18 rfl ?_
      refine gb_pick (lv' := [(0, .ref 77), (2, .int x2), (3, .int x3)]) [0, 2, 3] rfl ?_
      exact t_X11_leaf_19 hS  _ x2 x3 0 h
    · have h := gb_if hc h
      refine gb_iconst 1 d_X11_leaf_14 rfl ?_
      refine gb_goto 19 d_X11_leaf_15 (by decide) ?_
      refine gb_pick (lv' := [(0, .ref 77), (2, .int x2), (3, .int x3)]) [0, 2, 3] rfl ?_
      exact t_X11_leaf_19 hS  _ x2 x3 1 h
