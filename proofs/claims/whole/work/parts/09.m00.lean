-- X0_copyFrom
noncomputable def f_X0_copyFrom_93 (sh : List gb_Sh) (b : Nat) (b1 : Nat) : Nat → gb_G → Int32 → Option (gb_G)
  | 0, _, _ => none
  | n + 1, g, y2 => if 6 ≤ y2 then (gb_let (gb_pi g b 9 (g.1 b1 9)) (fun g13 => some g13)) else (gb_ck y2 6 (gb_ck y2 6 (gb_oq sh (g.2.2 (b1 + 5) y2.toNatClampNeg) (gb_let (gb_pr g (b + 5) y2.toNatClampNeg (g.2.2 (b1 + 5) y2.toNatClampNeg)) (fun g16 => f_X0_copyFrom_93 sh b b1 n g16 (y2 + 1))))))
noncomputable def f_X0_copyFrom (sh : List gb_Sh) (g : gb_G) (b : Nat) (b1 : Nat) : Option (gb_G) := gb_let (gb_pi g b 0 (g.1 b1 0)) (fun g1 => gb_cp 0 0 56 56 56 (gb_let (gb_pa g1 (b + 1) (va_cpy (g1.1 (b1 + 1)) (g1.1 (b + 1)) ((0 : Int32).toNatClampNeg) ((0 : Int32).toNatClampNeg) ((56 : Int32).toNatClampNeg))) (fun g3 => gb_let (gb_pi g3 b 2 (g3.1 b1 2)) (fun g4 => gb_cp 0 0 40 40 40 (gb_let (gb_pa g4 (b + 2) (va_cpy (g4.1 (b1 + 2)) (g4.1 (b + 2)) ((0 : Int32).toNatClampNeg) ((0 : Int32).toNatClampNeg) ((40 : Int32).toNatClampNeg))) (fun g6 => gb_let (gb_pi g6 b 4 (g6.1 b1 4)) (fun g7 => gb_cp 0 0 12 12 12 (gb_let (gb_pa g7 (b + 3) (va_cpy (g7.1 (b1 + 3)) (g7.1 (b + 3)) ((0 : Int32).toNatClampNeg) ((0 : Int32).toNatClampNeg) ((12 : Int32).toNatClampNeg))) (fun g9 => gb_cp 0 0 3 3 3 (gb_let (gb_pa g9 (b + 4) (va_cpy (g9.1 (b1 + 4)) (g9.1 (b + 4)) ((0 : Int32).toNatClampNeg) ((0 : Int32).toNatClampNeg) ((3 : Int32).toNatClampNeg))) (fun g11 => gb_let (gb_pi g11 b 7 (g11.1 b1 7)) (fun g12 => f_X0_copyFrom_93 sh b b1 gb_N g12 0))))))))))))
set_option maxRecDepth 100000 in
set_option maxHeartbeats 4000000 in
theorem t_X0_copyFrom_93 {Γ : gb_X} {sh : List gb_Sh} {b : Nat} {b1 : Nat} {out : gb_G} (hS : gb_S sh) (h_b : gb_okX0 sh b) (h_b1 : gb_okX0 sh b1) : ∀ (n : Nat) (g : gb_G) (y2 : Int32), f_X0_copyFrom_93 sh b b1 n g y2 = some out → gb_J Γ M_X0_copyFrom 1 (gb_Rv sh out) 0 0 sh g 93 [(0, .ref b), (1, .ref b1), (2, .int y2)] [] := by
  intro n
  induction n with
  | zero => intro g y2 h; cases h
  | succ n ih =>
    intro g y2 h
    rw [f_X0_copyFrom_93] at h
    refine gb_iload_n d_X0_copyFrom_93 rfl ?_
    refine gb_bipush 6 d_X0_copyFrom_94 rfl ?_
    refine gb_icmp_ge 117 d_X0_copyFrom_96 (by decide) (fun hc => ?_) (fun hc => ?_)
    · have h := gb_it hc h
      refine gb_aload_n d_X0_copyFrom_117 rfl ?_
      refine gb_aload_n d_X0_copyFrom_118 rfl ?_
      refine gb_geti f_X0_43 h_b1.1 rfl d_X0_copyFrom_119 ?_
      refine gb_puti f_X0_43 (fun h => nomatch h) h_b.1 rfl rfl rfl d_X0_copyFrom_122 ?_
      have h := gb_let_e h
      generalize gb_pi g b 9 (g.1 b1 9) = g13 at h ⊢
      cases h
      exact gb_vret d_X0_copyFrom_125 rfl ⟨rfl, rfl, rfl⟩
    · have h := gb_if hc h
      refine gb_aload_n d_X0_copyFrom_99 rfl ?_
      refine gb_getr (r := (b + 5)) f_X0_39 h_b.1 rfl d_X0_copyFrom_100 ?_
      refine gb_iload_n d_X0_copyFrom_103 rfl ?_
      refine gb_aload_n d_X0_copyFrom_104 rfl ?_
      refine gb_getr (r := (b1 + 5)) f_X0_39 h_b1.1 rfl d_X0_copyFrom_105 ?_
      refine gb_iload_n d_X0_copyFrom_108 rfl ?_
      obtain ⟨hi14, h⟩ := gb_ck_e h
      refine gb_aald_ y2.toNatClampNeg rfl (by decide) h_b1.2.2.2.2.2 hi14 d_X0_copyFrom_109 ?_
      obtain ⟨hi15, h⟩ := gb_ck_e h
      obtain ⟨ho17, h⟩ := gb_oq_e h
      refine gb_aast_ (r := (g.2.2 (b1 + 5) y2.toNatClampNeg)) y2.toNatClampNeg rfl (by decide) h_b.2.2.2.2.2 hi15 (fun a ha => ⟨_, _, _, (ho17 a ha).1, rfl, rfl⟩) d_X0_copyFrom_110 ?_
      have h := gb_let_e h
      generalize gb_pr g (b + 5) y2.toNatClampNeg (g.2.2 (b1 + 5) y2.toNatClampNeg) = g16 at h ⊢
      refine gb_iinc (y2 + 1) [(2, .int (y2 + 1)), (0, .ref b), (1, .ref b1)] d_X0_copyFrom_111 (Nat.le_of_ble_eq_true rfl) rfl rfl rfl ?_
      refine gb_goto 93 d_X0_copyFrom_114 (by decide) ?_
      refine gb_pick (lv' := [(0, .ref b), (1, .ref b1), (2, .int (y2 + 1))]) [1, 2, 0] rfl ?_
      exact ih _ (y2 + 1) h
set_option maxRecDepth 100000 in
set_option maxHeartbeats 4000000 in
theorem t_X0_copyFrom {Γ : gb_X} {sh : List gb_Sh} {b : Nat} {b1 : Nat} {out : gb_G} (hS : gb_S sh) (h_b : gb_okX0 sh b) (h_b1 : gb_okX0 sh b1) {g : gb_G} (h : f_X0_copyFrom sh g b b1 = some out) : gb_C Γ M_X0_copyFrom 1 0 0 sh g [.ref b, .ref b1] (gb_Rv sh out) := by
  refine gb_C.of rfl (Nat.le_of_ble_eq_true rfl) ?_
  refine gb_pick (lv' := [(0, .ref b), (1, .ref b1)]) [0, 1] rfl ?_
  unfold f_X0_copyFrom at h
  refine gb_aload_n d_X0_copyFrom_0 rfl ?_
  refine gb_aload_n d_X0_copyFrom_1 rfl ?_
  refine gb_geti f_X0_9 h_b1.1 rfl d_X0_copyFrom_2 ?_
  refine gb_puti f_X0_9 (fun h => nomatch h) h_b.1 rfl rfl rfl d_X0_copyFrom_5 ?_
  have h := gb_let_e h
  generalize gb_pi g b 0 (g.1 b1 0) = g1 at h ⊢
  refine gb_aload_n d_X0_copyFrom_8 rfl ?_
  refine gb_getr (r := (b1 + 1)) f_X0_15 h_b1.1 rfl d_X0_copyFrom_9 ?_
  refine gb_iconst 0 d_X0_copyFrom_12 rfl ?_
  refine gb_aload_n d_X0_copyFrom_13 rfl ?_
  refine gb_getr (r := (b + 1)) f_X0_15 h_b.1 rfl d_X0_copyFrom_14 ?_
  refine gb_iconst 0 d_X0_copyFrom_17 rfl ?_
  refine gb_bipush 56 d_X0_copyFrom_18 rfl ?_
  obtain ⟨hq2, h⟩ := gb_cp_e h
  refine gb_copy a_X0_46 wa_n wa_s wn_J10 h_b1.2.1 h_b.2.1 hq2.1 hq2.2.1 hq2.2.2.1 hq2.2.2.2.1 hq2.2.2.2.2 (Nat.le_of_ble_eq_true rfl) (Nat.le_of_ble_eq_true rfl) d_X0_copyFrom_20 ?_
  have h := gb_let_e h
  generalize gb_pa g1 (b + 1) (va_cpy (g1.1 (b1 + 1)) (g1.1 (b + 1)) ((0 : Int32).toNatClampNeg) ((0 : Int32).toNatClampNeg) ((56 : Int32).toNatClampNeg)) = g3 at h ⊢
  refine gb_aload_n d_X0_copyFrom_23 rfl ?_
  refine gb_aload_n d_X0_copyFrom_24 rfl ?_
  refine gb_geti f_X0_19 h_b1.1 rfl d_X0_copyFrom_25 ?_
  refine gb_puti f_X0_19 (fun h => nomatch h) h_b.1 rfl rfl rfl d_X0_copyFrom_28 ?_
  have h := gb_let_e h
  generalize gb_pi g3 b 2 (g3.1 b1 2) = g4 at h ⊢
  refine gb_aload_n d_X0_copyFrom_31 rfl ?_
  refine gb_getr (r := (b1 + 2)) f_X0_22 h_b1.1 rfl d_X0_copyFrom_32 ?_
  refine gb_iconst 0 d_X0_copyFrom_35 rfl ?_
  refine gb_aload_n d_X0_copyFrom_36 rfl ?_
  refine gb_getr (r := (b + 2)) f_X0_22 h_b.1 rfl d_X0_copyFrom_37 ?_
  refine gb_iconst 0 d_X0_copyFrom_40 rfl ?_
  refine gb_bipush 40 d_X0_copyFrom_41 rfl ?_
  obtain ⟨hq5, h⟩ := gb_cp_e h
  refine gb_copy a_X0_46 wa_n wa_s wn_J10 h_b1.2.2.1 h_b.2.2.1 hq5.1 hq5.2.1 hq5.2.2.1 hq5.2.2.2.1 hq5.2.2.2.2 (Nat.le_of_ble_eq_true rfl) (Nat.le_of_ble_eq_true rfl) d_X0_copyFrom_43 ?_
  have h := gb_let_e h
  generalize gb_pa g4 (b + 2) (va_cpy (g4.1 (b1 + 2)) (g4.1 (b + 2)) ((0 : Int32).toNatClampNeg) ((0 : Int32).toNatClampNeg) ((40 : Int32).toNatClampNeg)) = g6 at h ⊢
  refine gb_aload_n d_X0_copyFrom_46 rfl ?_
  refine gb_aload_n d_X0_copyFrom_47 rfl ?_
  refine gb_geti f_X0_25 h_b1.1 rfl d_X0_copyFrom_48 ?_
  refine gb_puti f_X0_25 (fun h => nomatch h) h_b.1 rfl rfl rfl d_X0_copyFrom_51 ?_
  have h := gb_let_e h
  generalize gb_pi g6 b 4 (g6.1 b1 4) = g7 at h ⊢
  refine gb_aload_n d_X0_copyFrom_54 rfl ?_
  refine gb_getr (r := (b1 + 3)) f_X0_28 h_b1.1 rfl d_X0_copyFrom_55 ?_
  refine gb_iconst 0 d_X0_copyFrom_58 rfl ?_
  refine gb_aload_n d_X0_copyFrom_59 rfl ?_
  refine gb_getr (r := (b + 3)) f_X0_28 h_b.1 rfl d_X0_copyFrom_60 ?_
  refine gb_iconst 0 d_X0_copyFrom_63 rfl ?_
  refine gb_bipush 12 d_X0_copyFrom_64 rfl ?_
  obtain ⟨hq8, h⟩ := gb_cp_e h
  refine gb_copy a_X0_46 wa_n wa_s wn_J10 h_b1.2.2.2.1 h_b.2.2.2.1 hq8.1 hq8.2.1 hq8.2.2.1 hq8.2.2.2.1 hq8.2.2.2.2 (Nat.le_of_ble_eq_true rfl) (Nat.le_of_ble_eq_true rfl) d_X0_copyFrom_66 ?_
  have h := gb_let_e h
  generalize gb_pa g7 (b + 3) (va_cpy (g7.1 (b1 + 3)) (g7.1 (b + 3)) ((0 : Int32).toNatClampNeg) ((0 : Int32).toNatClampNeg) ((12 : Int32).toNatClampNeg)) = g9 at h ⊢
  refine gb_aload_n d_X0_copyFrom_69 rfl ?_
  refine gb_getr (r := (b1 + 4)) f_X0_31 h_b1.1 rfl d_X0_copyFrom_70 ?_
  refine gb_iconst 0 d_X0_copyFrom_73 rfl ?_
  refine gb_aload_n d_X0_copyFrom_74 rfl ?_
  refine gb_getr (r := (b + 4)) f_X0_31 h_b.1 rfl d_X0_copyFrom_75 ?_
  refine gb_iconst 0 d_X0_copyFrom_78 rfl ?_
  refine gb_iconst 3 d_X0_copyFrom_79 rfl ?_
  obtain ⟨hq10, h⟩ := gb_cp_e h
  refine gb_copy a_X0_46 wa_n wa_s wn_J10 h_b1.2.2.2.2.1 h_b.2.2.2.2.1 hq10.1 hq10.2.1 hq10.2.2.1 hq10.2.2.2.1 hq10.2.2.2.2 (Nat.le_of_ble_eq_true rfl) (Nat.le_of_ble_eq_true rfl) d_X0_copyFrom_80 ?_
  have h := gb_let_e h
  generalize gb_pa g9 (b + 4) (va_cpy (g9.1 (b1 + 4)) (g9.1 (b + 4)) ((0 : Int32).toNatClampNeg) ((0 : Int32).toNatClampNeg) ((3 : Int32).toNatClampNeg)) = g11 at h ⊢
  refine gb_aload_n d_X0_copyFrom_83 rfl ?_
  refine gb_aload_n d_X0_copyFrom_84 rfl ?_
  refine gb_geti f_X0_34 h_b1.1 rfl d_X0_copyFrom_85 ?_
  refine gb_puti f_X0_34 (fun h => nomatch h) h_b.1 rfl rfl rfl d_X0_copyFrom_88 ?_
  have h := gb_let_e h
  generalize gb_pi g11 b 7 (g11.1 b1 7) = g12 at h ⊢
  refine gb_iconst 0 d_X0_copyFrom_91 rfl ?_
  refine gb_istore_n [(2, .int 0), (0, .ref b), (1, .ref b1)] d_X0_copyFrom_92 (Nat.le_of_ble_eq_true rfl) rfl ?_
  refine gb_pick (lv' := [(0, .ref b), (1, .ref b1), (2, .int 0)]) [1, 2, 0] rfl ?_
  exact t_X0_copyFrom_93 hS h_b h_b1  gb_N _ 0 h
-- X10_within
noncomputable def f_X10_within (sh : List gb_Sh) (g : gb_G) (x1 : Int32) (x2 : Int32) (x3 : Int32) : Option (gb_G × Int32) := if x1 < x2 then (some (g, 0)) else (if x3 < x1 then (some (g, 0)) else (some (g, 1)))
set_option maxRecDepth 100000 in
set_option maxHeartbeats 4000000 in
theorem t_X10_within {Γ : gb_X} {sh : List gb_Sh} {x1 : Int32} {x2 : Int32} {x3 : Int32} {out : gb_G × Int32} (hS : gb_S sh) {g : gb_G} (h : f_X10_within sh g x1 x2 x3 = some out) : gb_C Γ M_X10_within 0 0 0 sh g [.int x1, .int x2, .int x3] (gb_Ri sh out) := by
  refine gb_C.of rfl (Nat.le_of_ble_eq_true rfl) ?_
  refine gb_pick (lv' := [(0, .int x1), (1, .int x2), (2, .int x3)]) [0, 1, 2] rfl ?_
  unfold f_X10_within at h
  refine gb_iload_n d_X10_within_0 rfl ?_
  refine gb_iload_n d_X10_within_1 rfl ?_
  refine gb_icmp_gt 14 d_X10_within_2 (by decide) (fun hc => ?_) (fun hc => ?_)
  · have h := gb_it hc h
    refine gb_iconst 0 d_X10_within_14 rfl ?_
    cases h
    exact gb_zret d_X10_within_15 rfl rfl ⟨rfl, rfl, rfl⟩
  · have h := gb_if hc h
    refine gb_iload_n d_X10_within_5 rfl ?_
    refine gb_iload_n d_X10_within_6 rfl ?_
    refine gb_icmp_gt 14 d_X10_within_7 (by decide) (fun hc => ?_) (fun hc => ?_)
    · have h := gb_it hc h
      refine gb_iconst 0 d_X10_within_14 rfl ?_
      cases h
      exact gb_zret d_X10_within_15 rfl rfl ⟨rfl, rfl, rfl⟩
    · have h := gb_if hc h
      refine gb_iconst 1 d_X10_within_10 rfl ?_
      refine gb_goto 15 d_X10_within_11 (by decide) ?_
      cases h
      exact gb_zret d_X10_within_15 rfl rfl ⟨rfl, rfl, rfl⟩
-- X0_has
noncomputable def f_X0_has (sh : List gb_Sh) (g : gb_G) (b : Nat) (x1 : Int32) : Option (gb_G × Int32) := gb_bd (f_X10_within sh g x1 0 ((g.1 b 0) - 1)) (fun r1 => gb_bo r1.2 (some (r1.1, r1.2)))
set_option maxRecDepth 100000 in
set_option maxHeartbeats 4000000 in
theorem t_X0_has {Γ : gb_X} {sh : List gb_Sh} {b : Nat} {x1 : Int32} {out : gb_G × Int32} (hS : gb_S sh) (h_b : gb_okX0 sh b) {g : gb_G} (h : f_X0_has sh g b x1 = some out) : gb_C Γ M_X0_has 1 0 0 sh g [.ref b, .int x1] (gb_Ri sh out) := by
  refine gb_C.of rfl (Nat.le_of_ble_eq_true rfl) ?_
  refine gb_pick (lv' := [(0, .ref b), (1, .int x1)]) [0, 1] rfl ?_
  unfold f_X0_has at h
  refine gb_iload_n d_X0_has_0 rfl ?_
  refine gb_iconst 0 d_X0_has_1 rfl ?_
  refine gb_aload_n d_X0_has_2 rfl ?_
  refine gb_geti f_X0_9 h_b.1 rfl d_X0_has_3 ?_
  refine gb_iconst 1 d_X0_has_6 rfl ?_
  refine gb_isub d_X0_has_7 ?_
  obtain ⟨r1, e2, h⟩ := gb_bd_e h
  refine gb_cSNi (As := [.int x1, .int 0, .int ((g.1 b 0) - 1)]) (rest := []) m_X0_52 (t_X10_within (Γ := Γ) hS e2) (Nat.le_of_ble_eq_true rfl) rfl rfl (Nat.le_of_ble_eq_true rfl) d_X0_has_8 ?_
  obtain ⟨hb3, h⟩ := gb_bo_e h
  cases h
  exact gb_zret d_X0_has_11 rfl hb3 ⟨rfl, rfl, rfl⟩
-- J9_min_7cf53
noncomputable def f_J9_min_7cf53 (sh : List gb_Sh) (g : gb_G) (x1 : Int32) (x2 : Int32) : Option (gb_G × Int32) := if x2 < x1 then (some (g, x2)) else (some (g, x1))
set_option maxRecDepth 100000 in
set_option maxHeartbeats 4000000 in
theorem t_J9_min_7cf53 {Γ : gb_X} {sh : List gb_Sh} {x1 : Int32} {x2 : Int32} {out : gb_G × Int32} (hS : gb_S sh) {g : gb_G} (h : f_J9_min_7cf53 sh g x1 x2 = some out) : gb_C Γ M_J9_min_7cf53 0 0 0 sh g [.int x1, .int x2] (gb_Ri sh out) := by
  refine gb_C.ofF (by decide +kernel) (Nat.le_of_ble_eq_true rfl) ?_
  refine gb_pick (lv' := [(0, .int x1), (1, .int x2)]) [0, 1] rfl ?_
  unfold f_J9_min_7cf53 at h
  refine gb_iload_n d_J9_min_7cf53_0 rfl ?_
  refine gb_iload_n d_J9_min_7cf53_1 rfl ?_
  refine gb_icmp_gt 9 d_J9_min_7cf53_2 (by decide) (fun hc => ?_) (fun hc => ?_)
  · have h := gb_it hc h
    refine gb_iload_n d_J9_min_7cf53_9 rfl ?_
    cases h
    exact gb_iret d_J9_min_7cf53_10 rfl ⟨rfl, rfl, rfl⟩
  · have h := gb_if hc h
    refine gb_iload_n d_J9_min_7cf53_5 rfl ?_
    refine gb_goto 10 d_J9_min_7cf53_6 (by decide) ?_
    cases h
    exact gb_iret d_J9_min_7cf53_10 rfl ⟨rfl, rfl, rfl⟩
-- X0_write
noncomputable def f_X0_write (sh : List gb_Sh) (g : gb_G) (b : Nat) (x1 : Int32) (x2 : Int32) (x3 : Int32) : Option (gb_G) := gb_bd (f_X0_has sh g b x1) (fun r1 => if r1.2 = 0 then (some r1.1) else (gb_bd (f_X10_within sh r1.1 x2 0 6) (fun r3 => if r3.2 = 0 then (some r3.1) else (gb_ck ((x1 * 7) + x2) 56 (gb_let (gb_pi r3.1 (b + 1) (((x1 * 7) + x2).toNatClampNeg) x3) (fun g6 => some g6))))))
set_option maxRecDepth 100000 in
set_option maxHeartbeats 4000000 in
theorem t_X0_write {Γ : gb_X} {sh : List gb_Sh} {b : Nat} {x1 : Int32} {x2 : Int32} {x3 : Int32} {out : gb_G} (hS : gb_S sh) (h_b : gb_okX0 sh b) {g : gb_G} (h : f_X0_write sh g b x1 x2 x3 = some out) : gb_C Γ M_X0_write 2 0 0 sh g [.ref b, .int x1, .int x2, .int x3] (gb_Rv sh out) := by
  refine gb_C.of rfl (Nat.le_of_ble_eq_true rfl) ?_
  refine gb_pick (lv' := [(0, .ref b), (1, .int x1), (2, .int x2), (3, .int x3)]) [0, 1, 2, 3] rfl ?_
  unfold f_X0_write at h
  refine gb_aload_n d_X0_write_0 rfl ?_
  refine gb_iload_n d_X0_write_1 rfl ?_
  obtain ⟨r1, e2, h⟩ := gb_bd_e h
  refine gb_cVi (As := [.int x1]) (rest := []) m_X0_66 (t_X0_has (Γ := Γ) hS h_b e2) h_b.1 rfl (Nat.le_of_ble_eq_true rfl) rfl rfl (Nat.le_of_ble_eq_true rfl) d_X0_write_2 ?_
  refine gb_if_eq 30 d_X0_write_5 (by decide) (fun hc => ?_) (fun hc => ?_)
  · have h := gb_it hc h
    cases h
    exact gb_vret d_X0_write_30 rfl ⟨rfl, rfl, rfl⟩
  · have h := gb_if hc h
    refine gb_iload_n d_X0_write_8 rfl ?_
    refine gb_iconst 0 d_X0_write_9 rfl ?_
    refine gb_bipush 6 d_X0_write_10 rfl ?_
    obtain ⟨r3, e4, h⟩ := gb_bd_e h
    refine gb_cSNi (As := [.int x2, .int 0, .int 6]) (rest := []) m_X0_52 (t_X10_within (Γ := Γ) hS e4) (Nat.le_of_ble_eq_true rfl) rfl rfl (Nat.le_of_ble_eq_true rfl) d_X0_write_12 ?_
    refine gb_if_eq 30 d_X0_write_15 (by decide) (fun hc => ?_) (fun hc => ?_)
    · have h := gb_it hc h
      cases h
      exact gb_vret d_X0_write_30 rfl ⟨rfl, rfl, rfl⟩
    · have h := gb_if hc h
      refine gb_aload_n d_X0_write_18 rfl ?_
      refine gb_getr (r := (b + 1)) f_X0_15 h_b.1 rfl d_X0_write_19 ?_
      refine gb_iload_n d_X0_write_22 rfl ?_
      refine gb_bipush 7 d_X0_write_23 rfl ?_
      refine gb_imul d_X0_write_25 ?_
      refine gb_iload_n d_X0_write_26 rfl ?_
      refine gb_iadd d_X0_write_27 ?_
      refine gb_iload_n d_X0_write_28 rfl ?_
      obtain ⟨hi5, h⟩ := gb_ck_e h
      refine gb_iast_ (((x1 * 7) + x2).toNatClampNeg) rfl h_b.2.1 hi5 d_X0_write_29 ?_
      have h := gb_let_e h
      generalize gb_pi r3.1 (b + 1) (((x1 * 7) + x2).toNatClampNeg) x3 = g6 at h ⊢
      cases h
      exact gb_vret d_X0_write_30 rfl ⟨rfl, rfl, rfl⟩
-- X0_add
noncomputable def f_X0_add (sh : List gb_Sh) (g : gb_G) (b : Nat) (x1 : Int32) (x2 : Int32) (x3 : Int32) (x4 : Int32) (x5 : Int32) : Option (gb_G × Int32) := gb_bd (f_J9_min_7cf53 sh g 8 ((g.1 b 0) + 1)) (fun r1 => gb_let (gb_pi r1.1 b 0 r1.2) (fun g3 => gb_bd (f_X0_write sh g3 b ((g3.1 b 0) - 1) 0 x1) (fun r4 => gb_bd (f_X0_write sh r4 b ((g3.1 b 0) - 1) 1 x2) (fun r6 => gb_bd (f_X0_write sh r6 b ((g3.1 b 0) - 1) 2 x3) (fun r8 => gb_bd (f_X0_write sh r8 b ((g3.1 b 0) - 1) 3 x4) (fun r10 => gb_bd (f_X0_write sh r10 b ((g3.1 b 0) - 1) 4 x5) (fun r12 => gb_bd (f_X0_write sh r12 b ((g3.1 b 0) - 1) 5 0) (fun r14 => gb_bd (f_X0_write sh r14 b ((g3.1 b 0) - 1) 6 (-1)) (fun r16 => some (r16, ((g3.1 b 0) - 1)))))))))))
set_option maxRecDepth 100000 in
set_option maxHeartbeats 4000000 in
theorem t_X0_add {Γ : gb_X} {sh : List gb_Sh} {b : Nat} {x1 : Int32} {x2 : Int32} {x3 : Int32} {x4 : Int32} {x5 : Int32} {out : gb_G × Int32} (hS : gb_S sh) (h_b : gb_okX0 sh b) {g : gb_G} (h : f_X0_add sh g b x1 x2 x3 x4 x5 = some out) : gb_C Γ M_X0_add 3 0 0 sh g [.ref b, .int x1, .int x2, .int x3, .int x4, .int x5] (gb_Ri sh out) := by
  refine gb_C.of rfl (Nat.le_of_ble_eq_true rfl) ?_
  refine gb_pick (lv' := [(0, .ref b), (1, .int x1), (2, .int x2), (3, .int x3), (4, .int x4), (5, .int x5)]) [0, 1, 2, 3, 4, 5] rfl ?_
  unfold f_X0_add at h
  refine gb_aload_n d_X0_add_0 rfl ?_
  refine gb_bipush 8 d_X0_add_1 rfl ?_
  refine gb_aload_n d_X0_add_3 rfl ?_
  refine gb_geti f_X0_9 h_b.1 rfl d_X0_add_4 ?_
  refine gb_iconst 1 d_X0_add_7 rfl ?_
  refine gb_iadd d_X0_add_8 ?_
  obtain ⟨r1, e2, h⟩ := gb_bd_e h
  refine gb_cSi (As := [.int 8, .int ((g.1 b 0) + 1)]) (rest := [.ref b]) m_X0_56 (t_J9_min_7cf53 (Γ := Γ) hS e2) (Nat.le_of_ble_eq_true rfl) rfl rfl (Nat.le_of_ble_eq_true rfl) d_X0_add_9 ?_
  refine gb_puti f_X0_9 (fun h => nomatch h) h_b.1 rfl rfl rfl d_X0_add_12 ?_
  have h := gb_let_e h
  generalize gb_pi r1.1 b 0 r1.2 = g3 at h ⊢
  refine gb_aload_n d_X0_add_15 rfl ?_
  refine gb_geti f_X0_9 h_b.1 rfl d_X0_add_16 ?_
  refine gb_iconst 1 d_X0_add_19 rfl ?_
  refine gb_isub d_X0_add_20 ?_
  refine gb_istore [(6, .int ((g3.1 b 0) - 1)), (0, .ref b), (1, .int x1), (2, .int x2), (3, .int x3), (4, .int x4), (5, .int x5)] d_X0_add_21 (Nat.le_of_ble_eq_true rfl) rfl ?_
  refine gb_aload_n d_X0_add_23 rfl ?_
  refine gb_iload d_X0_add_24 rfl ?_
  refine gb_iconst 0 d_X0_add_26 rfl ?_
  refine gb_iload_n d_X0_add_27 rfl ?_
  obtain ⟨r4, e5, h⟩ := gb_bd_e h
  refine gb_cVv (As := [.int ((g3.1 b 0) - 1), .int 0, .int x1]) (rest := []) m_X0_62 (t_X0_write (Γ := Γ) hS h_b e5) h_b.1 rfl (Nat.le_of_ble_eq_true rfl) rfl rfl (Nat.le_of_ble_eq_true rfl) d_X0_add_28 ?_
  refine gb_aload_n d_X0_add_31 rfl ?_
  refine gb_iload d_X0_add_32 rfl ?_
  refine gb_iconst 1 d_X0_add_34 rfl ?_
  refine gb_iload_n d_X0_add_35 rfl ?_
  obtain ⟨r6, e7, h⟩ := gb_bd_e h
  refine gb_cVv (As := [.int ((g3.1 b 0) - 1), .int 1, .int x2]) (rest := []) m_X0_62 (t_X0_write (Γ := Γ) hS h_b e7) h_b.1 rfl (Nat.le_of_ble_eq_true rfl) rfl rfl (Nat.le_of_ble_eq_true rfl) d_X0_add_36 ?_
  refine gb_aload_n d_X0_add_39 rfl ?_
  refine gb_iload d_X0_add_40 rfl ?_
  refine gb_iconst 2 d_X0_add_42 rfl ?_
  refine gb_iload_n d_X0_add_43 rfl ?_
  obtain ⟨r8, e9, h⟩ := gb_bd_e h
  refine gb_cVv (As := [.int ((g3.1 b 0) - 1), .int 2, .int x3]) (rest := []) m_X0_62 (t_X0_write (Γ := Γ) hS h_b e9) h_b.1 rfl (Nat.le_of_ble_eq_true rfl) rfl rfl (Nat.le_of_ble_eq_true rfl) d_X0_add_44 ?_
  refine gb_aload_n d_X0_add_47 rfl ?_
  refine gb_iload d_X0_add_48 rfl ?_
  refine gb_iconst 3 d_X0_add_50 rfl ?_
  refine gb_iload d_X0_add_51 rfl ?_
  obtain ⟨r10, e11, h⟩ := gb_bd_e h
  refine gb_cVv (As := [.int ((g3.1 b 0) - 1), .int 3, .int x4]) (rest := []) m_X0_62 (t_X0_write (Γ := Γ) hS h_b e11) h_b.1 rfl (Nat.le_of_ble_eq_true rfl) rfl rfl (Nat.le_of_ble_eq_true rfl) d_X0_add_53 ?_
  refine gb_aload_n d_X0_add_56 rfl ?_
  refine gb_iload d_X0_add_57 rfl ?_
  refine gb_iconst 4 d_X0_add_59 rfl ?_
  refine gb_iload d_X0_add_60 rfl ?_
  obtain ⟨r12, e13, h⟩ := gb_bd_e h
  refine gb_cVv (As := [.int ((g3.1 b 0) - 1), .int 4, .int x5]) (rest := []) m_X0_62 (t_X0_write (Γ := Γ) hS h_b e13) h_b.1 rfl (Nat.le_of_ble_eq_true rfl) rfl rfl (Nat.le_of_ble_eq_true rfl) d_X0_add_62 ?_
  refine gb_aload_n d_X0_add_65 rfl ?_
  refine gb_iload d_X0_add_66 rfl ?_
  refine gb_iconst 5 d_X0_add_68 rfl ?_
  refine gb_iconst 0 d_X0_add_69 rfl ?_
  obtain ⟨r14, e15, h⟩ := gb_bd_e h
  refine gb_cVv (As := [.int ((g3.1 b 0) - 1), .int 5, .int 0]) (rest := []) m_X0_62 (t_X0_write (Γ := Γ) hS h_b e15) h_b.1 rfl (Nat.le_of_ble_eq_true rfl) rfl rfl (Nat.le_of_ble_eq_true rfl) d_X0_add_70 ?_
  refine gb_aload_n d_X0_add_73 rfl ?_
  refine gb_iload d_X0_add_74 rfl ?_
  refine gb_bipush 6 d_X0_add_76 rfl ?_
  refine gb_iconst (-1) d_X0_add_78 rfl ?_
  obtain ⟨r16, e17, h⟩ := gb_bd_e h
  refine gb_cVv (As := [.int ((g3.1 b 0) - 1), .int 6, .int (-1)]) (rest := []) m_X0_62 (t_X0_write (Γ := Γ) hS h_b e17) h_b.1 rfl (Nat.le_of_ble_eq_true rfl) rfl rfl (Nat.le_of_ble_eq_true rfl) d_X0_add_79 ?_
  refine gb_iload d_X0_add_82 rfl ?_
  cases h
  exact gb_iret d_X0_add_84 rfl ⟨rfl, rfl, rfl⟩
-- X0_read
noncomputable def f_X0_read_27 (sh : List gb_Sh) (b : Nat) (g : gb_G) (y1 : Int32) (y2 : Int32) (z0 : Int32) : Option (gb_G × Int32) := if z0 = 0 then (some (g, (-1))) else (gb_ck ((y1 * 7) + y2) 56 (some (g, (g.1 (b + 1) (((y1 * 7) + y2).toNatClampNeg)))))
noncomputable def f_X0_read (sh : List gb_Sh) (g : gb_G) (b : Nat) (x1 : Int32) (x2 : Int32) : Option (gb_G × Int32) := if x1 < 0 then (f_X0_read_27 sh b g x1 x2 0) else (if (g.1 b 0) ≤ x1 then (f_X0_read_27 sh b g x1 x2 0) else (if x2 < 0 then (f_X0_read_27 sh b g x1 x2 0) else (if 7 ≤ x2 then (f_X0_read_27 sh b g x1 x2 0) else (f_X0_read_27 sh b g x1 x2 1))))
set_option maxRecDepth 100000 in
set_option maxHeartbeats 4000000 in
theorem t_X0_read_27 {Γ : gb_X} {sh : List gb_Sh} {b : Nat} {out : gb_G × Int32} (hS : gb_S sh) (h_b : gb_okX0 sh b) : ∀ (g : gb_G) (y1 : Int32) (y2 : Int32) (z0 : Int32), f_X0_read_27 sh b g y1 y2 z0 = some out → gb_J Γ M_X0_read 0 (gb_Ri sh out) 0 0 sh g 27 [(0, .ref b), (1, .int y1), (2, .int y2)] [.int z0] := by
  intro g y1 y2 z0 h
  unfold f_X0_read_27 at h
  refine gb_istore_n [(3, .int z0), (0, .ref b), (1, .int y1), (2, .int y2)] d_X0_read_27 (Nat.le_of_ble_eq_true rfl) rfl ?_
  refine gb_iload_n d_X0_read_28 rfl ?_
  refine gb_if_eq 46 d_X0_read_29 (by decide) (fun hc => ?_) (fun hc => ?_)
  · have h := gb_it hc h
    refine gb_iconst (-1) d_X0_read_46 rfl ?_
    cases h
    exact gb_iret d_X0_read_47 rfl ⟨rfl, rfl, rfl⟩
  · have h := gb_if hc h
    refine gb_aload_n d_X0_read_32 rfl ?_
    refine gb_getr (r := (b + 1)) f_X0_15 h_b.1 rfl d_X0_read_33 ?_
    refine gb_iload_n d_X0_read_36 rfl ?_
    refine gb_bipush 7 d_X0_read_37 rfl ?_
    refine gb_imul d_X0_read_39 ?_
    refine gb_iload_n d_X0_read_40 rfl ?_
    refine gb_iadd d_X0_read_41 ?_
    obtain ⟨hi1, h⟩ := gb_ck_e h
    refine gb_iald_ (((y1 * 7) + y2).toNatClampNeg) rfl h_b.2.1 hi1 d_X0_read_42 ?_
    refine gb_goto 47 d_X0_read_43 (by decide) ?_
    cases h
    exact gb_iret d_X0_read_47 rfl ⟨rfl, rfl, rfl⟩
set_option maxRecDepth 100000 in
set_option maxHeartbeats 4000000 in
theorem t_X0_read {Γ : gb_X} {sh : List gb_Sh} {b : Nat} {x1 : Int32} {x2 : Int32} {out : gb_G × Int32} (hS : gb_S sh) (h_b : gb_okX0 sh b) {g : gb_G} (h : f_X0_read sh g b x1 x2 = some out) : gb_C Γ M_X0_read 0 0 0 sh g [.ref b, .int x1, .int x2] (gb_Ri sh out) := by
  refine gb_C.of rfl (Nat.le_of_ble_eq_true rfl) ?_
  refine gb_pick (lv' := [(0, .ref b), (1, .int x1), (2, .int x2)]) [0, 1, 2] rfl ?_
  unfold f_X0_read at h
  refine gb_iload_n d_X0_read_0 rfl ?_
  refine gb_if_lt 26 d_X0_read_1 (by decide) (fun hc => ?_) (fun hc => ?_)
  · have h := gb_it hc h
    refine gb_iconst 0 d_X0_read_26 rfl ?_
    exact t_X0_read_27 hS h_b  _ x1 x2 0 h
  · have h := gb_if hc h
    refine gb_iload_n d_X0_read_4 rfl ?_
    refine gb_aload_n d_X0_read_5 rfl ?_
    refine gb_geti f_X0_9 h_b.1 rfl d_X0_read_6 ?_
    refine gb_icmp_ge 26 d_X0_read_9 (by decide) (fun hc => ?_) (fun hc => ?_)
    · have h := gb_it hc h
      refine gb_iconst 0 d_X0_read_26 rfl ?_
      exact t_X0_read_27 hS h_b  _ x1 x2 0 h
    · have h := gb_if hc h
      refine gb_iload_n d_X0_read_12 rfl ?_
      refine gb_if_lt 26 d_X0_read_13 (by decide) (fun hc => ?_) (fun hc => ?_)
      · have h := gb_it hc h
        refine gb_iconst 0 d_X0_read_26 rfl ?_
        exact t_X0_read_27 hS h_b  _ x1 x2 0 h
      · have h := gb_if hc h
        refine gb_iload_n d_X0_read_16 rfl ?_
        refine gb_bipush 7 d_X0_read_17 rfl ?_
        refine gb_icmp_ge 26 d_X0_read_19 (by decide) (fun hc => ?_) (fun hc => ?_)
        · have h := gb_it hc h
          refine gb_iconst 0 d_X0_read_26 rfl ?_
          exact t_X0_read_27 hS h_b  _ x1 x2 0 h
        · have h := gb_if hc h
          refine gb_iconst 1 d_X0_read_22 rfl ?_
          refine gb_goto 27 d_X0_read_23 (by decide) ?_
          exact t_X0_read_27 hS h_b  _ x1 x2 1 h
-- X0_lacks
noncomputable def f_X0_lacks (sh : List gb_Sh) (g : gb_G) (b : Nat) (x1 : Int32) : Option (gb_G × Int32) := gb_bd (f_X0_read sh g b x1 5) (fun r1 => if r1.2 = 1 then (some (r1.1, 1)) else (some (r1.1, 0)))
set_option maxRecDepth 100000 in
set_option maxHeartbeats 4000000 in
theorem t_X0_lacks {Γ : gb_X} {sh : List gb_Sh} {b : Nat} {x1 : Int32} {out : gb_G × Int32} (hS : gb_S sh) (h_b : gb_okX0 sh b) {g : gb_G} (h : f_X0_lacks sh g b x1 = some out) : gb_C Γ M_X0_lacks 1 0 0 sh g [.ref b, .int x1] (gb_Ri sh out) := by
  refine gb_C.of rfl (Nat.le_of_ble_eq_true rfl) ?_
  refine gb_pick (lv' := [(0, .ref b), (1, .int x1)]) [0, 1] rfl ?_
  unfold f_X0_lacks at h
  refine gb_aload_n d_X0_lacks_0 rfl ?_
  refine gb_iload_n d_X0_lacks_1 rfl ?_
  refine gb_iconst 5 d_X0_lacks_2 rfl ?_
  obtain ⟨r1, e2, h⟩ := gb_bd_e h
  refine gb_cVi (As := [.int x1, .int 5]) (rest := []) m_X0_70 (t_X0_read (Γ := Γ) hS h_b e2) h_b.1 rfl (Nat.le_of_ble_eq_true rfl) rfl rfl (Nat.le_of_ble_eq_true rfl) d_X0_lacks_3 ?_
  refine gb_iconst 1 d_X0_lacks_6 rfl ?_
  refine gb_icmp_ne 14 d_X0_lacks_7 (by decide) (fun hc => ?_) (fun hc => ?_)
  · have h := gb_if hc h
    refine gb_iconst 0 d_X0_lacks_14 rfl ?_
    cases h
    exact gb_zret d_X0_lacks_15 rfl rfl ⟨rfl, rfl, rfl⟩
  · have h := gb_it hc h
    refine gb_iconst 1 d_X0_lacks_10 rfl ?_
    refine gb_goto 15 d_X0_lacks_11 (by decide) ?_
    cases h
    exact gb_zret d_X0_lacks_15 rfl rfl ⟨rfl, rfl, rfl⟩
-- X0_lackingCount
noncomputable def f_X0_lackingCount_4 (sh : List gb_Sh) (b : Nat) : Nat → gb_G → Int32 → Int32 → Option (gb_G × Int32)
  | 0, _, _, _ => none
  | n + 1, g, y1, y2 => if (g.1 b 0) ≤ y2 then (some (g, y1)) else (gb_bd (f_X0_read sh g b y2 5) (fun r1 => f_X0_lackingCount_4 sh b n r1.1 (y1 + r1.2) (y2 + 1)))
noncomputable def f_X0_lackingCount (sh : List gb_Sh) (g : gb_G) (b : Nat) : Option (gb_G × Int32) := f_X0_lackingCount_4 sh b gb_N g 0 0
set_option maxRecDepth 100000 in
set_option maxHeartbeats 4000000 in
theorem t_X0_lackingCount_4 {Γ : gb_X} {sh : List gb_Sh} {b : Nat} {out : gb_G × Int32} (hS : gb_S sh) (h_b : gb_okX0 sh b) : ∀ (n : Nat) (g : gb_G) (y1 : Int32) (y2 : Int32), f_X0_lackingCount_4 sh b n g y1 y2 = some out → gb_J Γ M_X0_lackingCount 1 (gb_Ri sh out) 0 0 sh g 4 [(0, .ref b), (1, .int y1), (2, .int y2)] [] := by
  intro n
  induction n with
  | zero => intro g y1 y2 h; cases h
  | succ n ih =>
    intro g y1 y2 h
    rw [f_X0_lackingCount_4] at h
    refine gb_iload_n d_X0_lackingCount_4 rfl ?_
    refine gb_aload_n d_X0_lackingCount_5 rfl ?_
    refine gb_geti f_X0_9 h_b.1 rfl d_X0_lackingCount_6 ?_
    refine gb_icmp_ge 27 d_X0_lackingCount_9 (by decide) (fun hc => ?_) (fun hc => ?_)
    · have h := gb_it hc h
      refine gb_iload_n d_X0_lackingCount_27 rfl ?_
      cases h
      exact gb_iret d_X0_lackingCount_28 rfl ⟨rfl, rfl, rfl⟩
    · have h := gb_if hc h
      refine gb_iload_n d_X0_lackingCount_12 rfl ?_
      refine gb_aload_n d_X0_lackingCount_13 rfl ?_
      refine gb_iload_n d_X0_lackingCount_14 rfl ?_
      refine gb_iconst 5 d_X0_lackingCount_15 rfl ?_
      obtain ⟨r1, e2, h⟩ := gb_bd_e h
      refine gb_cVi (As := [.int y2, .int 5]) (rest := [.int y1]) m_X0_70 (t_X0_read (Γ := Γ) hS h_b e2) h_b.1 rfl (Nat.le_of_ble_eq_true rfl) rfl rfl (Nat.le_of_ble_eq_true rfl) d_X0_lackingCount_16 ?_
      refine gb_iadd d_X0_lackingCount_19 ?_
      refine gb_istore_n [(1, .int (y1 + r1.2)), (0, .ref b), (2, .int y2)] d_X0_lackingCount_20 (Nat.le_of_ble_eq_true rfl) rfl ?_
      refine gb_iinc (y2 + 1) [(2, .int (y2 + 1)), (1, .int (y1 + r1.2)), (0, .ref b)] d_X0_lackingCount_21 (Nat.le_of_ble_eq_true rfl) rfl rfl rfl ?_
      refine gb_goto 4 d_X0_lackingCount_24 (by decide) ?_
      refine gb_pick (lv' := [(0, .ref b), (1, .int (y1 + r1.2)), (2, .int (y2 + 1))]) [2, 1, 0] rfl ?_
      exact ih _ (y1 + r1.2) (y2 + 1) h
set_option maxRecDepth 100000 in
set_option maxHeartbeats 4000000 in
theorem t_X0_lackingCount {Γ : gb_X} {sh : List gb_Sh} {b : Nat} {out : gb_G × Int32} (hS : gb_S sh) (h_b : gb_okX0 sh b) {g : gb_G} (h : f_X0_lackingCount sh g b = some out) : gb_C Γ M_X0_lackingCount 1 0 0 sh g [.ref b] (gb_Ri sh out) := by
  refine gb_C.of rfl (Nat.le_of_ble_eq_true rfl) ?_
  refine gb_pick (lv' := [(0, .ref b)]) [0] rfl ?_
  unfold f_X0_lackingCount at h
  refine gb_iconst 0 d_X0_lackingCount_0 rfl ?_
  refine gb_istore_n [(1, .int 0), (0, .ref b)] d_X0_lackingCount_1 (Nat.le_of_ble_eq_true rfl) rfl ?_
  refine gb_iconst 0 d_X0_lackingCount_2 rfl ?_
  refine gb_istore_n [(2, .int 0), (1, .int 0), (0, .ref b)] d_X0_lackingCount_3 (Nat.le_of_ble_eq_true rfl) rfl ?_
  refine gb_pick (lv' := [(0, .ref b), (1, .int 0), (2, .int 0)]) [2, 1, 0] rfl ?_
  exact t_X0_lackingCount_4 hS h_b  gb_N _ 0 0 h
-- X0_sourceOf
noncomputable def f_X0_sourceOf (sh : List gb_Sh) (g : gb_G) (b : Nat) (x1 : Int32) : Option (gb_G × Int32) := gb_bd (f_X0_read sh g b x1 5) (fun r1 => if r1.2 = 1 then (gb_bd (f_X0_read sh r1.1 b x1 6) (fun r3 => some (r3.1, r3.2))) else (some (r1.1, x1)))
set_option maxRecDepth 100000 in
set_option maxHeartbeats 4000000 in
theorem t_X0_sourceOf {Γ : gb_X} {sh : List gb_Sh} {b : Nat} {x1 : Int32} {out : gb_G × Int32} (hS : gb_S sh) (h_b : gb_okX0 sh b) {g : gb_G} (h : f_X0_sourceOf sh g b x1 = some out) : gb_C Γ M_X0_sourceOf 1 0 0 sh g [.ref b, .int x1] (gb_Ri sh out) := by
  refine gb_C.of rfl (Nat.le_of_ble_eq_true rfl) ?_
  refine gb_pick (lv' := [(0, .ref b), (1, .int x1)]) [0, 1] rfl ?_
  unfold f_X0_sourceOf at h
  refine gb_aload_n d_X0_sourceOf_0 rfl ?_
  refine gb_iload_n d_X0_sourceOf_1 rfl ?_
  refine gb_iconst 5 d_X0_sourceOf_2 rfl ?_
  obtain ⟨r1, e2, h⟩ := gb_bd_e h
  refine gb_cVi (As := [.int x1, .int 5]) (rest := []) m_X0_70 (t_X0_read (Γ := Γ) hS h_b e2) h_b.1 rfl (Nat.le_of_ble_eq_true rfl) rfl rfl (Nat.le_of_ble_eq_true rfl) d_X0_sourceOf_3 ?_
  refine gb_iconst 1 d_X0_sourceOf_6 rfl ?_
  refine gb_icmp_ne 20 d_X0_sourceOf_7 (by decide) (fun hc => ?_) (fun hc => ?_)
  · have h := gb_if hc h
    refine gb_iload_n d_X0_sourceOf_20 rfl ?_
    cases h
    exact gb_iret d_X0_sourceOf_21 rfl ⟨rfl, rfl, rfl⟩
  · have h := gb_it hc h
    refine gb_aload_n d_X0_sourceOf_10 rfl ?_
    refine gb_iload_n d_X0_sourceOf_11 rfl ?_
    refine gb_bipush 6 d_X0_sourceOf_12 rfl ?_
    obtain ⟨r3, e4, h⟩ := gb_bd_e h
    refine gb_cVi (As := [.int x1, .int 6]) (rest := []) m_X0_70 (t_X0_read (Γ := Γ) hS h_b e4) h_b.1 rfl (Nat.le_of_ble_eq_true rfl) rfl rfl (Nat.le_of_ble_eq_true rfl) d_X0_sourceOf_14 ?_
    refine gb_goto 21 d_X0_sourceOf_17 (by decide) ?_
    cases h
    exact gb_iret d_X0_sourceOf_21 rfl ⟨rfl, rfl, rfl⟩
-- X0_ownWeight
noncomputable def f_X0_ownWeight (sh : List gb_Sh) (g : gb_G) (b : Nat) (x1 : Int32) (x2 : Int32) : Option (gb_G × Int32) := gb_bd (f_X10_within sh g x1 0 4) (fun r1 => if r1.2 = 0 then (some (r1.1, 0)) else (gb_bd (f_X10_within sh r1.1 x2 0 7) (fun r3 => if r3.2 = 0 then (some (r3.1, 0)) else (gb_ck ((x1 * 8) + x2) 40 (some (r3.1, (r3.1.1 (b + 2) (((x1 * 8) + x2).toNatClampNeg))))))))
set_option maxRecDepth 100000 in
set_option maxHeartbeats 4000000 in
theorem t_X0_ownWeight {Γ : gb_X} {sh : List gb_Sh} {b : Nat} {x1 : Int32} {x2 : Int32} {out : gb_G × Int32} (hS : gb_S sh) (h_b : gb_okX0 sh b) {g : gb_G} (h : f_X0_ownWeight sh g b x1 x2 = some out) : gb_C Γ M_X0_ownWeight 1 0 0 sh g [.ref b, .int x1, .int x2] (gb_Ri sh out) := by
  refine gb_C.of rfl (Nat.le_of_ble_eq_true rfl) ?_
  refine gb_pick (lv' := [(0, .ref b), (1, .int x1), (2, .int x2)]) [0, 1, 2] rfl ?_
  unfold f_X0_ownWeight at h
  refine gb_iload_n d_X0_ownWeight_0 rfl ?_
  refine gb_iconst 0 d_X0_ownWeight_1 rfl ?_
  refine gb_iconst 4 d_X0_ownWeight_2 rfl ?_
  obtain ⟨r1, e2, h⟩ := gb_bd_e h
  refine gb_cSNi (As := [.int x1, .int 0, .int 4]) (rest := []) m_X0_52 (t_X10_within (Γ := Γ) hS e2) (Nat.le_of_ble_eq_true rfl) rfl rfl (Nat.le_of_ble_eq_true rfl) d_X0_ownWeight_3 ?_
  refine gb_if_eq 33 d_X0_ownWeight_6 (by decide) (fun hc => ?_) (fun hc => ?_)
  · have h := gb_it hc h
    refine gb_iconst 0 d_X0_ownWeight_33 rfl ?_
    cases h
    exact gb_iret d_X0_ownWeight_34 rfl ⟨rfl, rfl, rfl⟩
  · have h := gb_if hc h
    refine gb_iload_n d_X0_ownWeight_9 rfl ?_
    refine gb_iconst 0 d_X0_ownWeight_10 rfl ?_
    refine gb_bipush 7 d_X0_ownWeight_11 rfl ?_
    obtain ⟨r3, e4, h⟩ := gb_bd_e h
    refine gb_cSNi (As := [.int x2, .int 0, .int 7]) (rest := []) m_X0_52 (t_X10_within (Γ := Γ) hS e4) (Nat.le_of_ble_eq_true rfl) rfl rfl (Nat.le_of_ble_eq_true rfl) d_X0_ownWeight_13 ?_
    refine gb_if_eq 33 d_X0_ownWeight_16 (by decide) (fun hc => ?_) (fun hc => ?_)
    · have h := gb_it hc h
      refine gb_iconst 0 d_X0_ownWeight_33 rfl ?_
      cases h
      exact gb_iret d_X0_ownWeight_34 rfl ⟨rfl, rfl, rfl⟩
    · have h := gb_if hc h
      refine gb_aload_n d_X0_ownWeight_19 rfl ?_
      refine gb_getr (r := (b + 2)) f_X0_22 h_b.1 rfl d_X0_ownWeight_20 ?_
      refine gb_iload_n d_X0_ownWeight_23 rfl ?_
      refine gb_bipush 8 d_X0_ownWeight_24 rfl ?_
      refine gb_imul d_X0_ownWeight_26 ?_
      refine gb_iload_n d_X0_ownWeight_27 rfl ?_
      refine gb_iadd d_X0_ownWeight_28 ?_
      obtain ⟨hi5, h⟩ := gb_ck_e h
      refine gb_iald_ (((x1 * 8) + x2).toNatClampNeg) rfl h_b.2.2.1 hi5 d_X0_ownWeight_29 ?_
      refine gb_goto 34 d_X0_ownWeight_30 (by decide) ?_
      cases h
      exact gb_iret d_X0_ownWeight_34 rfl ⟨rfl, rfl, rfl⟩
-- X0_enact
noncomputable def f_X0_enact (sh : List gb_Sh) (g : gb_G) (b : Nat) (b1 : Nat) : Option (gb_G × Int32) := gb_bd (f_J9_min_7cf53 sh g 6 ((g.1 b 7) + 1)) (fun r1 => gb_let (gb_pi r1.1 b 7 r1.2) (fun g3 => gb_ck ((g3.1 b 7) - 1) 6 (gb_let (gb_pr g3 (b + 5) (((g3.1 b 7) - 1).toNatClampNeg) (some b1)) (fun g5 => some (g5, ((g5.1 b 7) - 1))))))
set_option maxRecDepth 100000 in
set_option maxHeartbeats 4000000 in
theorem t_X0_enact {Γ : gb_X} {sh : List gb_Sh} {b : Nat} {b1 : Nat} {out : gb_G × Int32} (hS : gb_S sh) (h_b : gb_okX0 sh b) (h_b1 : gb_okX7 sh b1) {g : gb_G} (h : f_X0_enact sh g b b1 = some out) : gb_C Γ M_X0_enact 1 0 0 sh g [.ref b, .ref b1] (gb_Ri sh out) := by
  refine gb_C.of rfl (Nat.le_of_ble_eq_true rfl) ?_
  refine gb_pick (lv' := [(0, .ref b), (1, .ref b1)]) [0, 1] rfl ?_
  unfold f_X0_enact at h
  refine gb_aload_n d_X0_enact_0 rfl ?_
  refine gb_bipush 6 d_X0_enact_1 rfl ?_
  refine gb_aload_n d_X0_enact_3 rfl ?_
  refine gb_geti f_X0_34 h_b.1 rfl d_X0_enact_4 ?_
  refine gb_iconst 1 d_X0_enact_7 rfl ?_
  refine gb_iadd d_X0_enact_8 ?_
  obtain ⟨r1, e2, h⟩ := gb_bd_e h
  refine gb_cSi (As := [.int 6, .int ((g.1 b 7) + 1)]) (rest := [.ref b]) m_X0_56 (t_J9_min_7cf53 (Γ := Γ) hS e2) (Nat.le_of_ble_eq_true rfl) rfl rfl (Nat.le_of_ble_eq_true rfl) d_X0_enact_9 ?_
  refine gb_puti f_X0_34 (fun h => nomatch h) h_b.1 rfl rfl rfl d_X0_enact_12 ?_
  have h := gb_let_e h
  generalize gb_pi r1.1 b 7 r1.2 = g3 at h ⊢
  refine gb_aload_n d_X0_enact_15 rfl ?_
  refine gb_getr (r := (b + 5)) f_X0_39 h_b.1 rfl d_X0_enact_16 ?_
  refine gb_aload_n d_X0_enact_19 rfl ?_
  refine gb_geti f_X0_34 h_b.1 rfl d_X0_enact_20 ?_
  refine gb_iconst 1 d_X0_enact_23 rfl ?_
  refine gb_isub d_X0_enact_24 ?_
  refine gb_aload_n d_X0_enact_25 rfl ?_
  obtain ⟨hi4, h⟩ := gb_ck_e h
  refine gb_aast_ (r := some b1) (((g3.1 b 7) - 1).toNatClampNeg) rfl (by decide) h_b.2.2.2.2.2 hi4 (fun a ha => by cases ha; exact ⟨_, _, _, h_b1.1, rfl, rfl⟩) d_X0_enact_26 ?_
  have h := gb_let_e h
  generalize gb_pr g3 (b + 5) (((g3.1 b 7) - 1).toNatClampNeg) (some b1) = g5 at h ⊢
  refine gb_aload_n d_X0_enact_27 rfl ?_
  refine gb_geti f_X0_34 h_b.1 rfl d_X0_enact_28 ?_
  refine gb_iconst 1 d_X0_enact_31 rfl ?_
  refine gb_isub d_X0_enact_32 ?_
  cases h
  exact gb_iret d_X0_enact_33 rfl ⟨rfl, rfl, rfl⟩
-- X0_lawAt
noncomputable def f_X0_lawAt (sh : List gb_Sh) (g : gb_G) (b : Nat) (x1 : Int32) : Option (gb_G × Option Nat) := gb_bd (f_X10_within sh g x1 0 ((g.1 b 7) - 1)) (fun r1 => if r1.2 = 0 then (some (r1.1, none)) else (gb_ck x1 6 (some (r1.1, (r1.1.2.2 (b + 5) x1.toNatClampNeg)))))
set_option maxRecDepth 100000 in
set_option maxHeartbeats 4000000 in
theorem t_X0_lawAt {Γ : gb_X} {sh : List gb_Sh} {b : Nat} {x1 : Int32} {out : gb_G × Option Nat} (hS : gb_S sh) (h_b : gb_okX0 sh b) {g : gb_G} (h : f_X0_lawAt sh g b x1 = some out) : gb_C Γ M_X0_lawAt 1 0 0 sh g [.ref b, .int x1] (gb_Rq sh out) := by
  refine gb_C.of rfl (Nat.le_of_ble_eq_true rfl) ?_
  refine gb_pick (lv' := [(0, .ref b), (1, .int x1)]) [0, 1] rfl ?_
  unfold f_X0_lawAt at h
  refine gb_iload_n d_X0_lawAt_0 rfl ?_
  refine gb_iconst 0 d_X0_lawAt_1 rfl ?_
  refine gb_aload_n d_X0_lawAt_2 rfl ?_
  refine gb_geti f_X0_34 h_b.1 rfl d_X0_lawAt_3 ?_
  refine gb_iconst 1 d_X0_lawAt_6 rfl ?_
  refine gb_isub d_X0_lawAt_7 ?_
  obtain ⟨r1, e2, h⟩ := gb_bd_e h
  refine gb_cSNi (As := [.int x1, .int 0, .int ((g.1 b 7) - 1)]) (rest := []) m_X0_52 (t_X10_within (Γ := Γ) hS e2) (Nat.le_of_ble_eq_true rfl) rfl rfl (Nat.le_of_ble_eq_true rfl) d_X0_lawAt_8 ?_
  refine gb_if_eq 23 d_X0_lawAt_11 (by decide) (fun hc => ?_) (fun hc => ?_)
  · have h := gb_it hc h
    refine gb_null d_X0_lawAt_23 ?_
    cases h
    exact gb_aret d_X0_lawAt_24 rfl (Or.inl ⟨_, rfl⟩) (gb_rfc none) ⟨rfl, rfl, rfl⟩
  · have h := gb_if hc h
    refine gb_aload_n d_X0_lawAt_14 rfl ?_
    refine gb_getr (r := (b + 5)) f_X0_39 h_b.1 rfl d_X0_lawAt_15 ?_
    refine gb_iload_n d_X0_lawAt_18 rfl ?_
    obtain ⟨hi3, h⟩ := gb_ck_e h
    refine gb_aald_ x1.toNatClampNeg rfl (by decide) h_b.2.2.2.2.2 hi3 d_X0_lawAt_19 ?_
    refine gb_goto 24 d_X0_lawAt_20 (by decide) ?_
    cases h
    exact gb_aret d_X0_lawAt_24 rfl (Or.inl ⟨_, rfl⟩) (gb_rfc (r1.1.2.2 (b + 5) x1.toNatClampNeg)) ⟨rfl, rfl, rfl⟩
-- X0_lawInForce
noncomputable def f_X0_lawInForce (sh : List gb_Sh) (g : gb_G) (b : Nat) : Option (gb_G × Option Nat) := gb_bd (f_X0_lawAt sh g b (g.1 b 9)) (fun r1 => some (r1.1, r1.2))
set_option maxRecDepth 100000 in
set_option maxHeartbeats 4000000 in
theorem t_X0_lawInForce {Γ : gb_X} {sh : List gb_Sh} {b : Nat} {out : gb_G × Option Nat} (hS : gb_S sh) (h_b : gb_okX0 sh b) {g : gb_G} (h : f_X0_lawInForce sh g b = some out) : gb_C Γ M_X0_lawInForce 2 0 0 sh g [.ref b] (gb_Rq sh out) := by
  refine gb_C.of rfl (Nat.le_of_ble_eq_true rfl) ?_
  refine gb_pick (lv' := [(0, .ref b)]) [0] rfl ?_
  unfold f_X0_lawInForce at h
  refine gb_aload_n d_X0_lawInForce_0 rfl ?_
  refine gb_aload_n d_X0_lawInForce_1 rfl ?_
  refine gb_geti f_X0_43 h_b.1 rfl d_X0_lawInForce_2 ?_
  obtain ⟨r1, e2, h⟩ := gb_bd_e h
  refine gb_cVq (As := [.int (g.1 b 9)]) (rest := []) m_X0_73 (t_X0_lawAt (Γ := Γ) hS h_b e2) h_b.1 rfl (Nat.le_of_ble_eq_true rfl) rfl rfl (Nat.le_of_ble_eq_true rfl) d_X0_lawInForce_5 ?_
  cases h
  exact gb_aret d_X0_lawInForce_8 rfl (Or.inl ⟨_, rfl⟩) (gb_rfc r1.2) ⟨rfl, rfl, rfl⟩
-- J9_max_7cf53
noncomputable def f_J9_max_7cf53 (sh : List gb_Sh) (g : gb_G) (x1 : Int32) (x2 : Int32) : Option (gb_G × Int32) := if x1 < x2 then (some (g, x2)) else (some (g, x1))
set_option maxRecDepth 100000 in
set_option maxHeartbeats 4000000 in
theorem t_J9_max_7cf53 {Γ : gb_X} {sh : List gb_Sh} {x1 : Int32} {x2 : Int32} {out : gb_G × Int32} (hS : gb_S sh) {g : gb_G} (h : f_J9_max_7cf53 sh g x1 x2 = some out) : gb_C Γ M_J9_max_7cf53 0 0 0 sh g [.int x1, .int x2] (gb_Ri sh out) := by
  refine gb_C.ofF (by decide +kernel) (Nat.le_of_ble_eq_true rfl) ?_
  refine gb_pick (lv' := [(0, .int x1), (1, .int x2)]) [0, 1] rfl ?_
  unfold f_J9_max_7cf53 at h
  refine gb_iload_n d_J9_max_7cf53_0 rfl ?_
  refine gb_iload_n d_J9_max_7cf53_1 rfl ?_
  refine gb_icmp_lt 9 d_J9_max_7cf53_2 (by decide) (fun hc => ?_) (fun hc => ?_)
  · have h := gb_it hc h
    refine gb_iload_n d_J9_max_7cf53_9 rfl ?_
    cases h
    exact gb_iret d_J9_max_7cf53_10 rfl ⟨rfl, rfl, rfl⟩
  · have h := gb_if hc h
    refine gb_iload_n d_J9_max_7cf53_5 rfl ?_
    refine gb_goto 10 d_J9_max_7cf53_6 (by decide) ?_
    cases h
    exact gb_iret d_J9_max_7cf53_10 rfl ⟨rfl, rfl, rfl⟩
-- X0_befall
noncomputable def f_X0_befall (sh : List gb_Sh) (g : gb_G) (b : Nat) (x1 : Int32) (x2 : Int32) : Option (gb_G) := gb_bd (f_X0_read sh g b x1 1) (fun r1 => if x2 = 0 then (gb_bd (f_X0_write sh r1.1 b x1 5 1) (fun r4 => some r4)) else if x2 = 1 then (gb_bd (f_X0_write sh r1.1 b x1 5 0) (fun r7 => some r7)) else if x2 = 2 then (gb_bd (f_J9_min_7cf53 sh r1.1 12 (r1.2 + 1)) (fun r10 => gb_bd (f_X0_write sh r10.1 b x1 1 r10.2) (fun r12 => some r12))) else (gb_bd (f_J9_max_7cf53 sh r1.1 1 (r1.2 - 1)) (fun r14 => gb_bd (f_X0_write sh r14.1 b x1 1 r14.2) (fun r16 => some r16))))
set_option maxRecDepth 100000 in
set_option maxHeartbeats 4000000 in
theorem t_X0_befall {Γ : gb_X} {sh : List gb_Sh} {b : Nat} {x1 : Int32} {x2 : Int32} {out : gb_G} (hS : gb_S sh) (h_b : gb_okX0 sh b) {g : gb_G} (h : f_X0_befall sh g b x1 x2 = some out) : gb_C Γ M_X0_befall 3 0 0 sh g [.ref b, .int x1, .int x2] (gb_Rv sh out) := by
  refine gb_C.of rfl (Nat.le_of_ble_eq_true rfl) ?_
  refine gb_pick (lv' := [(0, .ref b), (1, .int x1), (2, .int x2)]) [0, 1, 2] rfl ?_
  unfold f_X0_befall at h
  refine gb_aload_n d_X0_befall_0 rfl ?_
  refine gb_iload_n d_X0_befall_1 rfl ?_
  refine gb_iconst 1 d_X0_befall_2 rfl ?_
  obtain ⟨r1, e2, h⟩ := gb_bd_e h
  refine gb_cVi (As := [.int x1, .int 1]) (rest := []) m_X0_70 (t_X0_read (Γ := Γ) hS h_b e2) h_b.1 rfl (Nat.le_of_ble_eq_true rfl) rfl rfl (Nat.le_of_ble_eq_true rfl) d_X0_befall_3 ?_
  refine gb_istore_n [(3, .int r1.2), (0, .ref b), (1, .int x1), (2, .int x2)] d_X0_befall_6 (Nat.le_of_ble_eq_true rfl) rfl ?_
  refine gb_iload_n d_X0_befall_7 rfl ?_
  by_cases hc3 : x2 = 0
  · have h := gb_it hc3 h
    refine gb_tabI 36 hc3 d_X0_befall_8 (by decide) (by decide) rfl (by decide) ?_
    refine gb_aload_n d_X0_befall_36 rfl ?_
    refine gb_iload_n d_X0_befall_37 rfl ?_
    refine gb_iconst 5 d_X0_befall_38 rfl ?_
    refine gb_iconst 1 d_X0_befall_39 rfl ?_
    obtain ⟨r4, e5, h⟩ := gb_bd_e h
    refine gb_cVv (As := [.int x1, .int 5, .int 1]) (rest := []) m_X0_62 (t_X0_write (Γ := Γ) hS h_b e5) h_b.1 rfl (Nat.le_of_ble_eq_true rfl) rfl rfl (Nat.le_of_ble_eq_true rfl) d_X0_befall_40 ?_
    refine gb_goto 86 d_X0_befall_43 (by decide) ?_
    cases h
    exact gb_vret d_X0_befall_86 rfl ⟨rfl, rfl, rfl⟩
  replace h := gb_if hc3 h
  by_cases hc6 : x2 = 1
  · have h := gb_it hc6 h
    refine gb_tabI 46 hc6 d_X0_befall_8 (by decide) (by decide) rfl (by decide) ?_
    refine gb_aload_n d_X0_befall_46 rfl ?_
    refine gb_iload_n d_X0_befall_47 rfl ?_
    refine gb_iconst 5 d_X0_befall_48 rfl ?_
    refine gb_iconst 0 d_X0_befall_49 rfl ?_
    obtain ⟨r7, e8, h⟩ := gb_bd_e h
    refine gb_cVv (As := [.int x1, .int 5, .int 0]) (rest := []) m_X0_62 (t_X0_write (Γ := Γ) hS h_b e8) h_b.1 rfl (Nat.le_of_ble_eq_true rfl) rfl rfl (Nat.le_of_ble_eq_true rfl) d_X0_befall_50 ?_
    refine gb_goto 86 d_X0_befall_53 (by decide) ?_
    cases h
    exact gb_vret d_X0_befall_86 rfl ⟨rfl, rfl, rfl⟩
  replace h := gb_if hc6 h
  by_cases hc9 : x2 = 2
  · have h := gb_it hc9 h
    refine gb_tabI 56 hc9 d_X0_befall_8 (by decide) (by decide) rfl (by decide) ?_
    refine gb_aload_n d_X0_befall_56 rfl ?_
    refine gb_iload_n d_X0_befall_57 rfl ?_
    refine gb_iconst 1 d_X0_befall_58 rfl ?_
    refine gb_bipush 12 d_X0_befall_59 rfl ?_
    refine gb_iload_n d_X0_befall_61 rfl ?_
    refine gb_iconst 1 d_X0_befall_62 rfl ?_
    refine gb_iadd d_X0_befall_63 ?_
    obtain ⟨r10, e11, h⟩ := gb_bd_e h
    refine gb_cSi (As := [.int 12, .int (r1.2 + 1)]) (rest := [.int 1, .int x1, .ref b]) m_X0_56 (t_J9_min_7cf53 (Γ := Γ) hS e11) (Nat.le_of_ble_eq_true rfl) rfl rfl (Nat.le_of_ble_eq_true rfl) d_X0_befall_64 ?_
    obtain ⟨r12, e13, h⟩ := gb_bd_e h
    refine gb_cVv (As := [.int x1, .int 1, .int r10.2]) (rest := []) m_X0_62 (t_X0_write (Γ := Γ) hS h_b e13) h_b.1 rfl (Nat.le_of_ble_eq_true rfl) rfl rfl (Nat.le_of_ble_eq_true rfl) d_X0_befall_67 ?_
    refine gb_goto 86 d_X0_befall_70 (by decide) ?_
    cases h
    exact gb_vret d_X0_befall_86 rfl ⟨rfl, rfl, rfl⟩
  replace h := gb_if hc9 h
  refine gb_tabO 73 d_X0_befall_8 (gb_out 3 (by decide) (by decide) (by decide) (fun i hi => match i, hi with | 0, _ => hc3 | 1, _ => hc6 | 2, _ => hc9 | q + 3, h9 => absurd h9 (Nat.not_lt.mpr (Nat.le_add_left _ _)))) (by decide) ?_
  refine gb_aload_n d_X0_befall_73 rfl ?_
  refine gb_iload_n d_X0_befall_74 rfl ?_
  refine gb_iconst 1 d_X0_befall_75 rfl ?_
  refine gb_iconst 1 d_X0_befall_76 rfl ?_
  refine gb_iload_n d_X0_befall_77 rfl ?_
  refine gb_iconst 1 d_X0_befall_78 rfl ?_
  refine gb_isub d_X0_befall_79 ?_
  obtain ⟨r14, e15, h⟩ := gb_bd_e h
  refine gb_cSi (As := [.int 1, .int (r1.2 - 1)]) (rest := [.int 1, .int x1, .ref b]) m_X0_77 (t_J9_max_7cf53 (Γ := Γ) hS e15) (Nat.le_of_ble_eq_true rfl) rfl rfl (Nat.le_of_ble_eq_true rfl) d_X0_befall_80 ?_
  obtain ⟨r16, e17, h⟩ := gb_bd_e h
  refine gb_cVv (As := [.int x1, .int 1, .int r14.2]) (rest := []) m_X0_62 (t_X0_write (Γ := Γ) hS h_b e17) h_b.1 rfl (Nat.le_of_ble_eq_true rfl) rfl rfl (Nat.le_of_ble_eq_true rfl) d_X0_befall_83 ?_
  cases h
  exact gb_vret d_X0_befall_86 rfl ⟨rfl, rfl, rfl⟩
-- X10_nearest
noncomputable def f_X10_nearest (sh : List gb_Sh) (g : gb_G) (x1 : Int32) (x2 : Int32) (x3 : Int32) : Option (gb_G × Int32) := gb_bd (f_J9_min_7cf53 sh g x3 x1) (fun r1 => gb_bd (f_J9_max_7cf53 sh r1.1 x2 r1.2) (fun r3 => some (r3.1, r3.2)))
set_option maxRecDepth 100000 in
set_option maxHeartbeats 4000000 in
theorem t_X10_nearest {Γ : gb_X} {sh : List gb_Sh} {x1 : Int32} {x2 : Int32} {x3 : Int32} {out : gb_G × Int32} (hS : gb_S sh) {g : gb_G} (h : f_X10_nearest sh g x1 x2 x3 = some out) : gb_C Γ M_X10_nearest 1 0 0 sh g [.int x1, .int x2, .int x3] (gb_Ri sh out) := by
  refine gb_C.of rfl (Nat.le_of_ble_eq_true rfl) ?_
  refine gb_pick (lv' := [(0, .int x1), (1, .int x2), (2, .int x3)]) [0, 1, 2] rfl ?_
  unfold f_X10_nearest at h
  refine gb_iload_n d_X10_nearest_0 rfl ?_
  refine gb_iload_n d_X10_nearest_1 rfl ?_
  refine gb_iload_n d_X10_nearest_2 rfl ?_
  obtain ⟨r1, e2, h⟩ := gb_bd_e h
  refine gb_cSi (As := [.int x3, .int x1]) (rest := [.int x2]) m_X10_366 (t_J9_min_7cf53 (Γ := Γ) hS e2) (Nat.le_of_ble_eq_true rfl) rfl rfl (Nat.le_of_ble_eq_true rfl) d_X10_nearest_3 ?_
  obtain ⟨r3, e4, h⟩ := gb_bd_e h
  refine gb_cSi (As := [.int x2, .int r1.2]) (rest := []) m_X10_314 (t_J9_max_7cf53 (Γ := Γ) hS e4) (Nat.le_of_ble_eq_true rfl) rfl rfl (Nat.le_of_ble_eq_true rfl) d_X10_nearest_6 ?_
  cases h
  exact gb_iret d_X10_nearest_9 rfl ⟨rfl, rfl, rfl⟩
-- X4_fillWords
noncomputable def f_X4_fillWords (sh : List gb_Sh) (g : gb_G) (b1 : Nat) (x2 : Int32) : Option (gb_G) := gb_let (gb_pi g 55 0 x2) (fun g1 => gb_bd (f_X0_read sh g1 b1 x2 0) (fun r2 => gb_let (gb_pi r2.1 55 1 r2.2) (fun g4 => gb_bd (f_X0_read sh g4 b1 x2 1) (fun r5 => gb_let (gb_pi r5.1 55 2 r5.2) (fun g7 => gb_bd (f_X0_read sh g7 b1 x2 2) (fun r8 => gb_let (gb_pi r8.1 55 3 r8.2) (fun g10 => gb_bd (f_X0_read sh g10 b1 x2 3) (fun r11 => gb_let (gb_pi r11.1 55 4 r11.2) (fun g13 => gb_bd (f_X0_read sh g13 b1 x2 5) (fun r14 => gb_let (gb_pi r14.1 55 5 r14.2) (fun g16 => gb_bd (f_X0_read sh g16 b1 x2 4) (fun r17 => gb_let (gb_pi r17.1 55 6 r17.2) (fun g19 => gb_let (gb_pi g19 55 7 (g19.1 (b1 + 4) 0)) (fun g20 => gb_let (gb_pi g20 55 8 (g20.1 (b1 + 4) 2)) (fun g21 => some g21)))))))))))))))
set_option maxRecDepth 100000 in
set_option maxHeartbeats 4000000 in
theorem t_X4_fillWords {Γ : gb_X} {sh : List gb_Sh} {b1 : Nat} {x2 : Int32} {out : gb_G} (hS : gb_S sh) (h_b1 : gb_okX0 sh b1) {g : gb_G} (h : f_X4_fillWords sh g b1 x2 = some out) : gb_C Γ M_X4_fillWords 1 0 0 sh g [.ref 54, .ref b1, .int x2] (gb_Rv sh out) := by
  refine gb_C.of rfl (Nat.le_of_ble_eq_true rfl) ?_
  refine gb_pick (lv' := [(0, .ref 54), (1, .ref b1), (2, .int x2)]) [0, 1, 2] rfl ?_
  unfold f_X4_fillWords at h
  refine gb_aload_n d_X4_fillWords_0 rfl ?_
  refine gb_getr (r := 55) f_X4_9 (hS 54 _ rfl) rfl d_X4_fillWords_1 ?_
  refine gb_iconst 0 d_X4_fillWords_4 rfl ?_
  refine gb_iload_n d_X4_fillWords_5 rfl ?_
  refine gb_iast_ 0 rfl (hS 55 _ rfl) (by unfold vp_in; decide) d_X4_fillWords_6 ?_
  have h := gb_let_e h
  generalize gb_pi g 55 0 x2 = g1 at h ⊢
  refine gb_aload_n d_X4_fillWords_7 rfl ?_
  refine gb_getr (r := 55) f_X4_9 (hS 54 _ rfl) rfl d_X4_fillWords_8 ?_
  refine gb_iconst 1 d_X4_fillWords_11 rfl ?_
  refine gb_aload_n d_X4_fillWords_12 rfl ?_
  refine gb_iload_n d_X4_fillWords_13 rfl ?_
  refine gb_iconst 0 d_X4_fillWords_14 rfl ?_
  obtain ⟨r2, e3, h⟩ := gb_bd_e h
  refine gb_cVi (As := [.int x2, .int 0]) (rest := [.int 1, .ref 55]) m_X4_52 (t_X0_read (Γ := Γ) hS h_b1 e3) h_b1.1 rfl (Nat.le_of_ble_eq_true rfl) rfl rfl (Nat.le_of_ble_eq_true rfl) d_X4_fillWords_15 ?_
  refine gb_iast_ 1 rfl (hS 55 _ rfl) (by unfold vp_in; decide) d_X4_fillWords_18 ?_
  have h := gb_let_e h
  generalize gb_pi r2.1 55 1 r2.2 = g4 at h ⊢
  refine gb_aload_n d_X4_fillWords_19 rfl ?_
  refine gb_getr (r := 55) f_X4_9 (hS 54 _ rfl) rfl d_X4_fillWords_20 ?_
  refine gb_iconst 2 d_X4_fillWords_23 rfl ?_
  refine gb_aload_n d_X4_fillWords_24 rfl ?_
  refine gb_iload_n d_X4_fillWords_25 rfl ?_
  refine gb_iconst 1 d_X4_fillWords_26 rfl ?_
  obtain ⟨r5, e6, h⟩ := gb_bd_e h
  refine gb_cVi (As := [.int x2, .int 1]) (rest := [.int 2, .ref 55]) m_X4_52 (t_X0_read (Γ := Γ) hS h_b1 e6) h_b1.1 rfl (Nat.le_of_ble_eq_true rfl) rfl rfl (Nat.le_of_ble_eq_true rfl) d_X4_fillWords_27 ?_
  refine gb_iast_ 2 rfl (hS 55 _ rfl) (by unfold vp_in; decide) d_X4_fillWords_30 ?_
  have h := gb_let_e h
  generalize gb_pi r5.1 55 2 r5.2 = g7 at h ⊢
  refine gb_aload_n d_X4_fillWords_31 rfl ?_
  refine gb_getr (r := 55) f_X4_9 (hS 54 _ rfl) rfl d_X4_fillWords_32 ?_
  refine gb_iconst 3 d_X4_fillWords_35 rfl ?_
  refine gb_aload_n d_X4_fillWords_36 rfl ?_
  refine gb_iload_n d_X4_fillWords_37 rfl ?_
  refine gb_iconst 2 d_X4_fillWords_38 rfl ?_
  obtain ⟨r8, e9, h⟩ := gb_bd_e h
  refine gb_cVi (As := [.int x2, .int 2]) (rest := [.int 3, .ref 55]) m_X4_52 (t_X0_read (Γ := Γ) hS h_b1 e9) h_b1.1 rfl (Nat.le_of_ble_eq_true rfl) rfl rfl (Nat.le_of_ble_eq_true rfl) d_X4_fillWords_39 ?_
  refine gb_iast_ 3 rfl (hS 55 _ rfl) (by unfold vp_in; decide) d_X4_fillWords_42 ?_
  have h := gb_let_e h
  generalize gb_pi r8.1 55 3 r8.2 = g10 at h ⊢
  refine gb_aload_n d_X4_fillWords_43 rfl ?_
  refine gb_getr (r := 55) f_X4_9 (hS 54 _ rfl) rfl d_X4_fillWords_44 ?_
  refine gb_iconst 4 d_X4_fillWords_47 rfl ?_
  refine gb_aload_n d_X4_fillWords_48 rfl ?_
  refine gb_iload_n d_X4_fillWords_49 rfl ?_
  refine gb_iconst 3 d_X4_fillWords_50 rfl ?_
  obtain ⟨r11, e12, h⟩ := gb_bd_e h
  refine gb_cVi (As := [.int x2, .int 3]) (rest := [.int 4, .ref 55]) m_X4_52 (t_X0_read (Γ := Γ) hS h_b1 e12) h_b1.1 rfl (Nat.le_of_ble_eq_true rfl) rfl rfl (Nat.le_of_ble_eq_true rfl) d_X4_fillWords_51 ?_
  refine gb_iast_ 4 rfl (hS 55 _ rfl) (by unfold vp_in; decide) d_X4_fillWords_54 ?_
  have h := gb_let_e h
  generalize gb_pi r11.1 55 4 r11.2 = g13 at h ⊢
  refine gb_aload_n d_X4_fillWords_55 rfl ?_
  refine gb_getr (r := 55) f_X4_9 (hS 54 _ rfl) rfl d_X4_fillWords_56 ?_
  refine gb_iconst 5 d_X4_fillWords_59 rfl ?_
  refine gb_aload_n d_X4_fillWords_60 rfl ?_
  refine gb_iload_n d_X4_fillWords_61 rfl ?_
  refine gb_iconst 5 d_X4_fillWords_62 rfl ?_
  obtain ⟨r14, e15, h⟩ := gb_bd_e h
  refine gb_cVi (As := [.int x2, .int 5]) (rest := [.int 5, .ref 55]) m_X4_52 (t_X0_read (Γ := Γ) hS h_b1 e15) h_b1.1 rfl (Nat.le_of_ble_eq_true rfl) rfl rfl (Nat.le_of_ble_eq_true rfl) d_X4_fillWords_63 ?_
  refine gb_iast_ 5 rfl (hS 55 _ rfl) (by unfold vp_in; decide) d_X4_fillWords_66 ?_
  have h := gb_let_e h
  generalize gb_pi r14.1 55 5 r14.2 = g16 at h ⊢
  refine gb_aload_n d_X4_fillWords_67 rfl ?_
  refine gb_getr (r := 55) f_X4_9 (hS 54 _ rfl) rfl d_X4_fillWords_68 ?_
  refine gb_bipush 6 d_X4_fillWords_71 rfl ?_
  refine gb_aload_n d_X4_fillWords_73 rfl ?_
  refine gb_iload_n d_X4_fillWords_74 rfl ?_
  refine gb_iconst 4 d_X4_fillWords_75 rfl ?_
  obtain ⟨r17, e18, h⟩ := gb_bd_e h
  refine gb_cVi (As := [.int x2, .int 4]) (rest := [.int 6, .ref 55]) m_X4_52 (t_X0_read (Γ := Γ) hS h_b1 e18) h_b1.1 rfl (Nat.le_of_ble_eq_true rfl) rfl rfl (Nat.le_of_ble_eq_true rfl) d_X4_fillWords_76 ?_
  refine gb_iast_ 6 rfl (hS 55 _ rfl) (by unfold vp_in; decide) d_X4_fillWords_79 ?_
  have h := gb_let_e h
  generalize gb_pi r17.1 55 6 r17.2 = g19 at h ⊢
  refine gb_aload_n d_X4_fillWords_80 rfl ?_
  refine gb_getr (r := 55) f_X4_9 (hS 54 _ rfl) rfl d_X4_fillWords_81 ?_
  refine gb_bipush 7 d_X4_fillWords_84 rfl ?_
  refine gb_aload_n d_X4_fillWords_86 rfl ?_
  refine gb_getr (r := (b1 + 4)) f_X4_56 h_b1.1 rfl d_X4_fillWords_87 ?_
  refine gb_iconst 0 d_X4_fillWords_90 rfl ?_
  refine gb_iald_ 0 rfl h_b1.2.2.2.2.1 (by unfold vp_in; decide) d_X4_fillWords_91 ?_
  refine gb_iast_ 7 rfl (hS 55 _ rfl) (by unfold vp_in; decide) d_X4_fillWords_92 ?_
  have h := gb_let_e h
  generalize gb_pi g19 55 7 (g19.1 (b1 + 4) 0) = g20 at h ⊢
  refine gb_aload_n d_X4_fillWords_93 rfl ?_
  refine gb_getr (r := 55) f_X4_9 (hS 54 _ rfl) rfl d_X4_fillWords_94 ?_
  refine gb_bipush 8 d_X4_fillWords_97 rfl ?_
  refine gb_aload_n d_X4_fillWords_99 rfl ?_
  refine gb_getr (r := (b1 + 4)) f_X4_56 h_b1.1 rfl d_X4_fillWords_100 ?_
  refine gb_iconst 2 d_X4_fillWords_103 rfl ?_
  refine gb_iald_ 2 rfl h_b1.2.2.2.2.1 (by unfold vp_in; decide) d_X4_fillWords_104 ?_
  refine gb_iast_ 8 rfl (hS 55 _ rfl) (by unfold vp_in; decide) d_X4_fillWords_105 ?_
  have h := gb_let_e h
  generalize gb_pi g20 55 8 (g20.1 (b1 + 4) 2) = g21 at h ⊢
  cases h
  exact gb_vret d_X4_fillWords_106 rfl ⟨rfl, rfl, rfl⟩
-- X5_join
noncomputable def f_X5_join_162 (sh : List gb_Sh) (g : gb_G)  : Option (gb_G × Int32) := some (g, (-2147483648))
noncomputable def f_X5_join_146 (sh : List gb_Sh) (g : gb_G) (y3 : Int64) : Option (gb_G × Int32) := if 0 < (lg_cmp y3 1000000000) then (f_X5_join_162 sh g ) else (if 0 ≤ (lg_cmp y3 (-1000000000)) then (some (g, y3.toInt32)) else (f_X5_join_162 sh g ))
noncomputable def f_X5_join_117 (sh : List gb_Sh) (K146 : gb_G → Int64 → Option (gb_G × Int32)) (g : gb_G) (z0 : Int64) : Option (gb_G × Int32) := K146 g z0
noncomputable def f_X5_join_131 (sh : List gb_Sh) (K146 : gb_G → Int64 → Option (gb_G × Int32)) (g : gb_G) (z0 : Int64) : Option (gb_G × Int32) := K146 g z0
noncomputable def f_X5_join_145 (sh : List gb_Sh) (K146 : gb_G → Int64 → Option (gb_G × Int32)) (g : gb_G) (z0 : Int64) : Option (gb_G × Int32) := K146 g z0
noncomputable def f_X5_join_19 (sh : List gb_Sh) (g : gb_G) (y0 : Int32) (y1 : Int32) (y2 : Int32) : Option (gb_G × Int32) := if y0 = 5 then (f_X5_join_146 sh g (y1.toInt64 + y2.toInt64)) else if y0 = 6 then (f_X5_join_146 sh g (y1.toInt64 - y2.toInt64)) else if y0 = 7 then (f_X5_join_146 sh g (y1.toInt64 * y2.toInt64)) else if y0 = 8 then (gb_nz y2 (f_X5_join_146 sh g ((y1 / y2).toInt64))) else if y0 = 9 then (gb_nz y2 (f_X5_join_146 sh g ((gb_rem y1 y2).toInt64))) else if y0 = 10 then (if y2 ≤ y1 then (f_X5_join_117 sh (fun w w0 => f_X5_join_146 sh w w0) g 0) else (f_X5_join_117 sh (fun w w0 => f_X5_join_146 sh w w0) g 1)) else if y0 = 11 then (if y1 ≤ y2 then (f_X5_join_131 sh (fun w w0 => f_X5_join_146 sh w w0) g 0) else (f_X5_join_131 sh (fun w w0 => f_X5_join_146 sh w w0) g 1)) else (if y1 = y2 then (f_X5_join_145 sh (fun w w0 => f_X5_join_146 sh w w0) g 1) else (f_X5_join_145 sh (fun w w0 => f_X5_join_146 sh w w0) g 0))
noncomputable def f_X5_join_16 (sh : List gb_Sh) (g : gb_G)  : Option (gb_G × Int32) := some (g, (-2147483648))
noncomputable def f_X5_join (sh : List gb_Sh) (g : gb_G) (x1 : Int32) (x2 : Int32) (x3 : Int32) : Option (gb_G × Int32) := if x3 = 0 then (if x1 = 8 then (f_X5_join_16 sh g ) else (if x1 = 9 then (f_X5_join_16 sh g ) else (f_X5_join_19 sh g x1 x2 x3))) else (f_X5_join_19 sh g x1 x2 x3)
set_option maxRecDepth 100000 in
set_option maxHeartbeats 4000000 in
theorem t_X5_join_162 {Γ : gb_X} {sh : List gb_Sh} {out : gb_G × Int32} (hS : gb_S sh) : ∀ (g : gb_G) , f_X5_join_162 sh g  = some out → gb_J Γ M_X5_join 0 (gb_Ri sh out) 0 0 sh g 162 [] [] := by
  intro g  h
  unfold f_X5_join_162 at h
  refine gb_ldc (-2147483648) k_X5_20 d_X5_join_162 ?_
  refine gb_goto 169 d_X5_join_164 (by decide) ?_
  cases h
  exact gb_iret d_X5_join_169 rfl ⟨rfl, rfl, rfl⟩
set_option maxRecDepth 100000 in
set_option maxHeartbeats 4000000 in
theorem t_X5_join_146 {Γ : gb_X} {sh : List gb_Sh} {out : gb_G × Int32} (hS : gb_S sh) : ∀ (g : gb_G) (y3 : Int64), f_X5_join_146 sh g y3 = some out → gb_J Γ M_X5_join 0 (gb_Ri sh out) 0 0 sh g 146 [(3, .long y3)] [] := by
  intro g y3 h
  unfold f_X5_join_146 at h
  refine gb_lload_n d_X5_join_146 rfl ?_
  refine gb_ldc2 1000000000 k_X5_44 d_X5_join_147 ?_
  refine gb_lcmp d_X5_join_150 ?_
  refine gb_if_gt 162 d_X5_join_151 (by decide) (fun hc => ?_) (fun hc => ?_)
  · have h := gb_it hc h
    refine gb_pick (lv' := []) [] rfl ?_
    exact t_X5_join_162 hS  _  h
  · have h := gb_if hc h
    refine gb_lload_n d_X5_join_154 rfl ?_
    refine gb_ldc2 (-1000000000) k_X5_46 d_X5_join_155 ?_
    refine gb_lcmp d_X5_join_158 ?_
    refine gb_if_ge 167 d_X5_join_159 (by decide) (fun hc => ?_) (fun hc => ?_)
    · have h := gb_it hc h
      refine gb_lload_n d_X5_join_167 rfl ?_
      refine gb_l2i d_X5_join_168 ?_
      cases h
      exact gb_iret d_X5_join_169 rfl ⟨rfl, rfl, rfl⟩
    · have h := gb_if hc h
      refine gb_pick (lv' := []) [] rfl ?_
      exact t_X5_join_162 hS  _  h
set_option maxRecDepth 100000 in
set_option maxHeartbeats 4000000 in
theorem t_X5_join_117 {Γ : gb_X} {sh : List gb_Sh} {out : gb_G × Int32} (hS : gb_S sh) {K146 : gb_G → Int64 → Option (gb_G × Int32)} (hK146 : ∀ (g : gb_G) (y3 : Int64), K146 g y3 = some out → gb_J Γ M_X5_join 0 (gb_Ri sh out) 0 0 sh g 146 [(3, .long y3)] []) : ∀ (g : gb_G) (z0 : Int64), f_X5_join_117 sh K146 g z0 = some out → gb_J Γ M_X5_join 0 (gb_Ri sh out) 0 0 sh g 117 [] [.long z0] := by
  intro g z0 h
  unfold f_X5_join_117 at h
  refine gb_lstore_n [(3, .long z0)] d_X5_join_117 (Nat.le_of_ble_eq_true rfl) rfl ?_
  refine gb_goto 146 d_X5_join_118 (by decide) ?_
  exact hK146 _ z0 h
set_option maxRecDepth 100000 in
set_option maxHeartbeats 4000000 in
theorem t_X5_join_131 {Γ : gb_X} {sh : List gb_Sh} {out : gb_G × Int32} (hS : gb_S sh) {K146 : gb_G → Int64 → Option (gb_G × Int32)} (hK146 : ∀ (g : gb_G) (y3 : Int64), K146 g y3 = some out → gb_J Γ M_X5_join 0 (gb_Ri sh out) 0 0 sh g 146 [(3, .long y3)] []) : ∀ (g : gb_G) (z0 : Int64), f_X5_join_131 sh K146 g z0 = some out → gb_J Γ M_X5_join 0 (gb_Ri sh out) 0 0 sh g 131 [] [.long z0] := by
  intro g z0 h
  unfold f_X5_join_131 at h
  refine gb_lstore_n [(3, .long z0)] d_X5_join_131 (Nat.le_of_ble_eq_true rfl) rfl ?_
  refine gb_goto 146 d_X5_join_132 (by decide) ?_
  exact hK146 _ z0 h
set_option maxRecDepth 100000 in
set_option maxHeartbeats 4000000 in
theorem t_X5_join_145 {Γ : gb_X} {sh : List gb_Sh} {out : gb_G × Int32} (hS : gb_S sh) {K146 : gb_G → Int64 → Option (gb_G × Int32)} (hK146 : ∀ (g : gb_G) (y3 : Int64), K146 g y3 = some out → gb_J Γ M_X5_join 0 (gb_Ri sh out) 0 0 sh g 146 [(3, .long y3)] []) : ∀ (g : gb_G) (z0 : Int64), f_X5_join_145 sh K146 g z0 = some out → gb_J Γ M_X5_join 0 (gb_Ri sh out) 0 0 sh g 145 [] [.long z0] := by
  intro g z0 h
  unfold f_X5_join_145 at h
  refine gb_lstore_n [(3, .long z0)] d_X5_join_145 (Nat.le_of_ble_eq_true rfl) rfl ?_
  exact hK146 _ z0 h
set_option maxRecDepth 100000 in
set_option maxHeartbeats 4000000 in
theorem t_X5_join_19 {Γ : gb_X} {sh : List gb_Sh} {out : gb_G × Int32} (hS : gb_S sh) : ∀ (g : gb_G) (y0 : Int32) (y1 : Int32) (y2 : Int32), f_X5_join_19 sh g y0 y1 y2 = some out → gb_J Γ M_X5_join 0 (gb_Ri sh out) 0 0 sh g 19 [(0, .int y0), (1, .int y1), (2, .int y2)] [] := by
  intro g y0 y1 y2 h
  unfold f_X5_join_19 at h
  refine gb_iload_n d_X5_join_19 rfl ?_
  by_cases hc1 : y0 = 5
  · have h := gb_it hc1 h
    refine gb_tabI 64 hc1 d_X5_join_20 (by decide) (by decide) rfl (by decide) ?_
    refine gb_iload_n d_X5_join_64 rfl ?_
    refine gb_i2l d_X5_join_65 ?_
    refine gb_iload_n d_X5_join_66 rfl ?_
    refine gb_i2l d_X5_join_67 ?_
    refine gb_ladd d_X5_join_68 ?_
    refine gb_lstore_n [(3, .long (y1.toInt64 + y2.toInt64)), (0, .int y0), (1, .int y1), (2, .int y2)] d_X5_join_69 (Nat.le_of_ble_eq_true rfl) rfl ?_
    refine gb_goto 146 d_X5_join_70 (by decide) ?_
    refine gb_pick (lv' := [(3, .long (y1.toInt64 + y2.toInt64))]) [0] rfl ?_
    exact t_X5_join_146 hS  _ (y1.toInt64 + y2.toInt64) h
  replace h := gb_if hc1 h
  by_cases hc2 : y0 = 6
  · have h := gb_it hc2 h
    refine gb_tabI 73 hc2 d_X5_join_20 (by decide) (by decide) rfl (by decide) ?_
    refine gb_iload_n d_X5_join_73 rfl ?_
    refine gb_i2l d_X5_join_74 ?_
    refine gb_iload_n d_X5_join_75 rfl ?_
    refine gb_i2l d_X5_join_76 ?_
    refine gb_lsub d_X5_join_77 ?_
    refine gb_lstore_n [(3, .long (y1.toInt64 - y2.toInt64)), (0, .int y0), (1, .int y1), (2, .int y2)] d_X5_join_78 (Nat.le_of_ble_eq_true rfl) rfl ?_
    refine gb_goto 146 d_X5_join_79 (by decide) ?_
    refine gb_pick (lv' := [(3, .long (y1.toInt64 - y2.toInt64))]) [0] rfl ?_
    exact t_X5_join_146 hS  _ (y1.toInt64 - y2.toInt64) h
  replace h := gb_if hc2 h
  by_cases hc3 : y0 = 7
  · have h := gb_it hc3 h
    refine gb_tabI 82 hc3 d_X5_join_20 (by decide) (by decide) rfl (by decide) ?_
    refine gb_iload_n d_X5_join_82 rfl ?_
    refine gb_i2l d_X5_join_83 ?_
    refine gb_iload_n d_X5_join_84 rfl ?_
    refine gb_i2l d_X5_join_85 ?_
    refine gb_lmul d_X5_join_86 ?_
    refine gb_lstore_n [(3, .long (y1.toInt64 * y2.toInt64)), (0, .int y0), (1, .int y1), (2, .int y2)] d_X5_join_87 (Nat.le_of_ble_eq_true rfl) rfl ?_
    refine gb_goto 146 d_X5_join_88 (by decide) ?_
    refine gb_pick (lv' := [(3, .long (y1.toInt64 * y2.toInt64))]) [0] rfl ?_
    exact t_X5_join_146 hS  _ (y1.toInt64 * y2.toInt64) h
  replace h := gb_if hc3 h
  by_cases hc4 : y0 = 8
  · have h := gb_it hc4 h
    refine gb_tabI 91 hc4 d_X5_join_20 (by decide) (by decide) rfl (by decide) ?_
    refine gb_iload_n d_X5_join_91 rfl ?_
    refine gb_iload_n d_X5_join_92 rfl ?_
    obtain ⟨hn5, h⟩ := gb_nz_e h
    refine gb_idiv d_X5_join_93 hn5 ?_
    refine gb_i2l d_X5_join_94 ?_
    refine gb_lstore_n [(3, .long ((y1 / y2).toInt64)), (0, .int y0), (1, .int y1), (2, .int y2)] d_X5_join_95 (Nat.le_of_ble_eq_true rfl) rfl ?_
    refine gb_goto 146 d_X5_join_96 (by decide) ?_
    refine gb_pick (lv' := [(3, .long ((y1 / y2).toInt64))]) [0] rfl ?_
    exact t_X5_join_146 hS  _ ((y1 / y2).toInt64) h
  replace h := gb_if hc4 h
  by_cases hc6 : y0 = 9
  · have h := gb_it hc6 h
    refine gb_tabI 99 hc6 d_X5_join_20 (by decide) (by decide) rfl (by decide) ?_
    refine gb_iload_n d_X5_join_99 rfl ?_
    refine gb_iload_n d_X5_join_100 rfl ?_
    obtain ⟨hn7, h⟩ := gb_nz_e h
    refine gb_rem_ d_X5_join_101 hn7 ?_
    refine gb_i2l d_X5_join_102 ?_
    refine gb_lstore_n [(3, .long ((gb_rem y1 y2).toInt64)), (0, .int y0), (1, .int y1), (2, .int y2)] d_X5_join_103 (Nat.le_of_ble_eq_true rfl) rfl ?_
    refine gb_goto 146 d_X5_join_104 (by decide) ?_
    refine gb_pick (lv' := [(3, .long ((gb_rem y1 y2).toInt64))]) [0] rfl ?_
    exact t_X5_join_146 hS  _ ((gb_rem y1 y2).toInt64) h
  replace h := gb_if hc6 h
  by_cases hc8 : y0 = 10
  · have h := gb_it hc8 h
    refine gb_tabI 107 hc8 d_X5_join_20 (by decide) (by decide) rfl (by decide) ?_
    refine gb_iload_n d_X5_join_107 rfl ?_
    refine gb_iload_n d_X5_join_108 rfl ?_
    refine gb_icmp_ge 116 d_X5_join_109 (by decide) (fun hc => ?_) (fun hc => ?_)
    · have h := gb_it hc h
      refine gb_lconst 0 d_X5_join_116 rfl ?_
      refine gb_pick (lv' := []) [] rfl ?_
      exact t_X5_join_117 hS (fun w w0 hw => t_X5_join_146 hS  w w0 hw) _ 0 h
    · have h := gb_if hc h
      refine gb_lconst 1 d_X5_join_112 rfl ?_
      refine gb_goto 117 d_X5_join_113 (by decide) ?_
      refine gb_pick (lv' := []) [] rfl ?_
      exact t_X5_join_117 hS (fun w w0 hw => t_X5_join_146 hS  w w0 hw) _ 1 h
  replace h := gb_if hc8 h
  by_cases hc9 : y0 = 11
  · have h := gb_it hc9 h
    refine gb_tabI 121 hc9 d_X5_join_20 (by decide) (by decide) rfl (by decide) ?_
    refine gb_iload_n d_X5_join_121 rfl ?_
    refine gb_iload_n d_X5_join_122 rfl ?_
    refine gb_icmp_le 130 d_X5_join_123 (by decide) (fun hc => ?_) (fun hc => ?_)
    · have h := gb_it hc h
      refine gb_lconst 0 d_X5_join_130 rfl ?_
      refine gb_pick (lv' := []) [] rfl ?_
      exact t_X5_join_131 hS (fun w w0 hw => t_X5_join_146 hS  w w0 hw) _ 0 h
    · have h := gb_if hc h
      refine gb_lconst 1 d_X5_join_126 rfl ?_
      refine gb_goto 131 d_X5_join_127 (by decide) ?_
      refine gb_pick (lv' := []) [] rfl ?_
      exact t_X5_join_131 hS (fun w w0 hw => t_X5_join_146 hS  w w0 hw) _ 1 h
  replace h := gb_if hc9 h
  refine gb_tabO 135 d_X5_join_20 (gb_out 7 (by decide) (by decide) (by decide) (fun i hi => match i, hi with | 0, _ => hc1 | 1, _ => hc2 | 2, _ => hc3 | 3, _ => hc4 | 4, _ => hc6 | 5, _ => hc8 | 6, _ => hc9 | q + 7, h9 => absurd h9 (Nat.not_lt.mpr (Nat.le_add_left _ _)))) (by decide) ?_
  refine gb_iload_n d_X5_join_135 rfl ?_
  refine gb_iload_n d_X5_join_136 rfl ?_
  refine gb_icmp_ne 144 d_X5_join_137 (by decide) (fun hc => ?_) (fun hc => ?_)
  · have h := gb_if hc h
    refine gb_lconst 0 d_X5_join_144 rfl ?_
    refine gb_pick (lv' := []) [] rfl ?_
    exact t_X5_join_145 hS (fun w w0 hw => t_X5_join_146 hS  w w0 hw) _ 0 h
  · have h := gb_it hc h
    refine gb_lconst 1 d_X5_join_140 rfl ?_
    refine gb_goto 145 d_X5_join_141 (by decide) ?_
    refine gb_pick (lv' := []) [] rfl ?_
    exact t_X5_join_145 hS (fun w w0 hw => t_X5_join_146 hS  w w0 hw) _ 1 h
set_option maxRecDepth 100000 in
set_option maxHeartbeats 4000000 in
theorem t_X5_join_16 {Γ : gb_X} {sh : List gb_Sh} {out : gb_G × Int32} (hS : gb_S sh) : ∀ (g : gb_G) , f_X5_join_16 sh g  = some out → gb_J Γ M_X5_join 0 (gb_Ri sh out) 0 0 sh g 16 [] [] := by
  intro g  h
  unfold f_X5_join_16 at h
  refine gb_ldc (-2147483648) k_X5_20 d_X5_join_16 ?_
  cases h
  exact gb_iret d_X5_join_18 rfl ⟨rfl, rfl, rfl⟩
set_option maxRecDepth 100000 in
set_option maxHeartbeats 4000000 in
theorem t_X5_join {Γ : gb_X} {sh : List gb_Sh} {x1 : Int32} {x2 : Int32} {x3 : Int32} {out : gb_G × Int32} (hS : gb_S sh) {g : gb_G} (h : f_X5_join sh g x1 x2 x3 = some out) : gb_C Γ M_X5_join 0 0 0 sh g [.int x1, .int x2, .int x3] (gb_Ri sh out) := by
  refine gb_C.of rfl (Nat.le_of_ble_eq_true rfl) ?_
  refine gb_pick (lv' := [(0, .int x1), (1, .int x2), (2, .int x3)]) [0, 1, 2] rfl ?_
  unfold f_X5_join at h
  refine gb_iload_n d_X5_join_0 rfl ?_
  refine gb_if_ne 19 d_X5_join_1 (by decide) (fun hc => ?_) (fun hc => ?_)
  · have h := gb_if hc h
    exact t_X5_join_19 hS  _ x1 x2 x3 h
  · have h := gb_it hc h
    refine gb_iload_n d_X5_join_4 rfl ?_
    refine gb_bipush 8 d_X5_join_5 rfl ?_
    refine gb_icmp_eq 16 d_X5_join_7 (by decide) (fun hc => ?_) (fun hc => ?_)
    · have h := gb_it hc h
      refine gb_pick (lv' := []) [] rfl ?_
      exact t_X5_join_16 hS  _  h
    · have h := gb_if hc h
      refine gb_iload_n d_X5_join_10 rfl ?_
      refine gb_bipush 9 d_X5_join_11 rfl ?_
      refine gb_icmp_ne 19 d_X5_join_13 (by decide) (fun hc => ?_) (fun hc => ?_)
      · have h := gb_if hc h
        exact t_X5_join_19 hS  _ x1 x2 x3 h
      · have h := gb_it hc h
        refine gb_pick (lv' := []) [] rfl ?_
        exact t_X5_join_16 hS  _  h
-- X5_run
noncomputable def f_X5_run_24 (sh : List gb_Sh) (b1 : Nat) (a4 : Nat) (n4 : Nat) (g : gb_G)  : Option (gb_G × Int32) := some (g, (-2147483648))
noncomputable def f_X5_run_324 (sh : List gb_Sh) (b1 : Nat) (a4 : Nat) (n4 : Nat) (g : gb_G) (y8 : Int32) : Option (gb_G × Int32) := if 1 ≤ y8 then (some (g, (g.1 53 0))) else (some (g, (-2147483648)))
noncomputable def f_X5_run_292 (sh : List gb_Sh) (b1 : Nat) (a4 : Nat) (n4 : Nat) (K318 : gb_G → Int32 → Int32 → Int32 → Int32 → Option (gb_G × Int32)) (g : gb_G) (y6 : Int32) (y7 : Int32) (y8 : Int32) (y9 : Int32) (z0 : Int32) : Option (gb_G × Int32) := if z0 = (-2147483648) then (some (g, (-2147483648))) else (gb_ck ((y8 + (-1)) - 1) 51 (gb_let (gb_pi g 53 (((y8 + (-1)) - 1).toNatClampNeg) z0) (fun g12 => K318 g12 y6 y7 (y8 + (-1)) y9)))
noncomputable def f_X5_run_318 (sh : List gb_Sh) (b1 : Nat) (a4 : Nat) (n4 : Nat) (K75 : gb_G → Int32 → Int32 → Int32 → Int32 → Option (gb_G × Int32)) (g : gb_G) (y6 : Int32) (y7 : Int32) (y8 : Int32) (y9 : Int32) : Option (gb_G × Int32) := K75 g y6 y7 y8 (y9 + 1)
noncomputable def f_X5_run_237 (sh : List gb_Sh) (b1 : Nat) (a4 : Nat) (n4 : Nat) (K318 : gb_G → Int32 → Int32 → Int32 → Int32 → Option (gb_G × Int32)) (g : gb_G) (y6 : Int32) (y7 : Int32) (y8 : Int32) (y9 : Int32) (y11 : Int32) (z0 : Int32) (z1 : Int32) : Option (gb_G × Int32) := if z1 = z0 then (gb_bd (f_J9_max_7cf53 sh g y6 y11) (fun r14 => K318 r14.1 r14.2 y7 y8 y9)) else (K318 g y6 y7 (y8 + (-1)) y9)
noncomputable def f_X5_run_145 (sh : List gb_Sh) (b1 : Nat) (a4 : Nat) (n4 : Nat) (g : gb_G)  : Option (gb_G × Int32) := some (g, (-2147483648))
noncomputable def f_X5_run_169 (sh : List gb_Sh) (b1 : Nat) (a4 : Nat) (n4 : Nat) (K318 : gb_G → Int32 → Int32 → Int32 → Int32 → Option (gb_G × Int32)) (g : gb_G) (y6 : Int32) (y7 : Int32) (y8 : Int32) (y9 : Int32) (z0 : Int32) (z1 : Int32) : Option (gb_G × Int32) := gb_ck z1 51 (gb_let (gb_pi g 53 z1.toNatClampNeg z0) (fun g20 => K318 g20 y6 y7 (y8 + 1) y9))
noncomputable def f_X5_run_148 (sh : List gb_Sh) (b1 : Nat) (a4 : Nat) (n4 : Nat) (K318 : gb_G → Int32 → Int32 → Int32 → Int32 → Option (gb_G × Int32)) (g : gb_G) (y6 : Int32) (y7 : Int32) (y8 : Int32) (y9 : Int32) (y10 : Int32) (y11 : Int32) : Option (gb_G × Int32) := if y10 = 0 then (f_X5_run_169 sh b1 a4 n4 K318 g y6 y7 y8 y9 y11 y8) else (gb_ck y11 n4 (f_X5_run_169 sh b1 a4 n4 K318 g y6 y7 y8 y9 (g.1 a4 y11.toNatClampNeg) y8))
noncomputable def f_X5_run_75 (sh : List gb_Sh) (b1 : Nat) (a4 : Nat) (n4 : Nat) : Nat → gb_G → Int32 → Int32 → Int32 → Int32 → Option (gb_G × Int32)
  | 0, _, _, _, _, _ => none
  | n + 1, g, y6, y7, y8, y9 => if y7 ≤ y9 then (f_X5_run_324 sh b1 a4 n4 g y8) else (if y7 ≤ y6 then (f_X5_run_324 sh b1 a4 n4 g y8) else (gb_ck y6 (gb_ln sh (b1 + 1)) (gb_ck y6 (gb_ln sh (b1 + 2)) (if 1 < (g.1 (b1 + 1) y6.toNatClampNeg) then (if 4 < (g.1 (b1 + 1) y6.toNatClampNeg) then (if 2 ≤ y8 then (gb_ck (y8 - 2) 51 (gb_ck (y8 - 1) 51 (gb_bd (f_X5_join sh g (g.1 (b1 + 1) y6.toNatClampNeg) (g.1 53 ((y8 - 2).toNatClampNeg)) (g.1 53 ((y8 - 1).toNatClampNeg))) (fun r9 => f_X5_run_292 sh b1 a4 n4 (fun w w0 w1 w2 w3 => f_X5_run_318 sh b1 a4 n4 (fun w w0 w1 w2 w3 => f_X5_run_75 sh b1 a4 n4 n w w0 w1 w2 w3) w w0 w1 w2 w3) r9.1 (y6 + 1) y7 y8 y9 r9.2)))) else (f_X5_run_292 sh b1 a4 n4 (fun w w0 w1 w2 w3 => f_X5_run_318 sh b1 a4 n4 (fun w w0 w1 w2 w3 => f_X5_run_75 sh b1 a4 n4 n w w0 w1 w2 w3) w w0 w1 w2 w3) g (y6 + 1) y7 y8 y9 (-2147483648))) else (if 1 ≤ y8 then (gb_ck (y8 - 1) 51 (if (g.1 (b1 + 1) y6.toNatClampNeg) = 2 then (gb_ck (y8 - 1) 51 (gb_let (gb_pi g 53 ((y8 - 1).toNatClampNeg) (1 - (g.1 53 ((y8 - 1).toNatClampNeg)))) (fun g17 => f_X5_run_318 sh b1 a4 n4 (fun w w0 w1 w2 w3 => f_X5_run_75 sh b1 a4 n4 n w w0 w1 w2 w3) g17 (y6 + 1) y7 y8 y9))) else (if (g.1 (b1 + 1) y6.toNatClampNeg) = 3 then (f_X5_run_237 sh b1 a4 n4 (fun w w0 w1 w2 w3 => f_X5_run_318 sh b1 a4 n4 (fun w w0 w1 w2 w3 => f_X5_run_75 sh b1 a4 n4 n w w0 w1 w2 w3) w w0 w1 w2 w3) g (y6 + 1) y7 y8 y9 (g.1 (b1 + 2) y6.toNatClampNeg) 1 (g.1 53 ((y8 - 1).toNatClampNeg))) else (f_X5_run_237 sh b1 a4 n4 (fun w w0 w1 w2 w3 => f_X5_run_318 sh b1 a4 n4 (fun w w0 w1 w2 w3 => f_X5_run_75 sh b1 a4 n4 n w w0 w1 w2 w3) w w0 w1 w2 w3) g (y6 + 1) y7 y8 y9 (g.1 (b1 + 2) y6.toNatClampNeg) 0 (g.1 53 ((y8 - 1).toNatClampNeg)))))) else (some (g, (-2147483648))))) else (if 51 ≤ y8 then (f_X5_run_145 sh b1 a4 n4 g ) else (if (g.1 (b1 + 1) y6.toNatClampNeg) = 1 then (if (g.1 (b1 + 2) y6.toNatClampNeg) < 0 then (f_X5_run_145 sh b1 a4 n4 g ) else (if (g.1 (b1 + 2) y6.toNatClampNeg) < (Int32.ofNat n4) then (f_X5_run_148 sh b1 a4 n4 (fun w w0 w1 w2 w3 => f_X5_run_318 sh b1 a4 n4 (fun w w0 w1 w2 w3 => f_X5_run_75 sh b1 a4 n4 n w w0 w1 w2 w3) w w0 w1 w2 w3) g (y6 + 1) y7 y8 y9 (g.1 (b1 + 1) y6.toNatClampNeg) (g.1 (b1 + 2) y6.toNatClampNeg)) else (f_X5_run_145 sh b1 a4 n4 g ))) else (f_X5_run_148 sh b1 a4 n4 (fun w w0 w1 w2 w3 => f_X5_run_318 sh b1 a4 n4 (fun w w0 w1 w2 w3 => f_X5_run_75 sh b1 a4 n4 n w w0 w1 w2 w3) w w0 w1 w2 w3) g (y6 + 1) y7 y8 y9 (g.1 (b1 + 1) y6.toNatClampNeg) (g.1 (b1 + 2) y6.toNatClampNeg))))))))
noncomputable def f_X5_run (sh : List gb_Sh) (g : gb_G) (b1 : Nat) (x2 : Int32) (x3 : Int32) (a4 : Nat) (n4 : Nat) : Option (gb_G × Int32) := if ((x2 * 3) + x3) < 0 then (f_X5_run_24 sh b1 a4 n4 g ) else (if (((x2 * 3) + x3) + 1) < (Int32.ofNat (gb_ln sh (b1 + 5))) then (gb_ck ((x2 * 3) + x3) (gb_ln sh (b1 + 5)) (gb_ck (((x2 * 3) + x3) + 1) (gb_ln sh (b1 + 5)) (gb_bd (f_J9_min_7cf53 sh g (g.1 b1 0) (g.1 (b1 + 5) ((((x2 * 3) + x3) + 1).toNatClampNeg))) (fun r3 => if (g.1 (b1 + 5) (((x2 * 3) + x3).toNatClampNeg)) < 0 then (some (r3.1, 1)) else (if (g.1 (b1 + 5) (((x2 * 3) + x3).toNatClampNeg)) < r3.2 then (f_X5_run_75 sh b1 a4 n4 gb_N r3.1 (g.1 (b1 + 5) (((x2 * 3) + x3).toNatClampNeg)) r3.2 0 (g.1 (b1 + 5) (((x2 * 3) + x3).toNatClampNeg))) else (some (r3.1, 1))))))) else (f_X5_run_24 sh b1 a4 n4 g ))
set_option maxRecDepth 100000 in
set_option maxHeartbeats 4000000 in
theorem t_X5_run_24 {Γ : gb_X} {sh : List gb_Sh} {b1 : Nat} {a4 : Nat} {n4 : Nat} {out : gb_G × Int32} (hS : gb_S sh) (h_b1 : gb_okX7 sh b1) (h_a4 : sh[a4]? = some (.inl (0, n4))) : ∀ (g : gb_G) , f_X5_run_24 sh b1 a4 n4 g  = some out → gb_J Γ M_X5_run 1 (gb_Ri sh out) 0 0 sh g 24 [] [] := by
  intro g  h
  unfold f_X5_run_24 at h
  refine gb_ldc (-2147483648) k_X5_20 d_X5_run_24 ?_
  cases h
  exact gb_iret d_X5_run_26 rfl ⟨rfl, rfl, rfl⟩
set_option maxRecDepth 100000 in
set_option maxHeartbeats 4000000 in
theorem t_X5_run_324 {Γ : gb_X} {sh : List gb_Sh} {b1 : Nat} {a4 : Nat} {n4 : Nat} {out : gb_G × Int32} (hS : gb_S sh) (h_b1 : gb_okX7 sh b1) (h_a4 : sh[a4]? = some (.inl (0, n4))) : ∀ (g : gb_G) (y8 : Int32), f_X5_run_324 sh b1 a4 n4 g y8 = some out → gb_J Γ M_X5_run 1 (gb_Ri sh out) 0 0 sh g 324 [(0, .ref 52), (8, .int y8)] [] := by
  intro g y8 h
  unfold f_X5_run_324 at h
  refine gb_iload d_X5_run_324 rfl ?_
  refine gb_iconst 1 d_X5_run_326 rfl ?_
  refine gb_icmp_ge 335 d_X5_run_327 (by decide) (fun hc => ?_) (fun hc => ?_)
  · have h := gb_it hc h
    refine gb_aload_n d_X5_run_335 rfl ?_
    refine gb_getr (r := 53) f_X5_9 (hS 52 _ rfl) rfl d_X5_run_336 ?_
    refine gb_iconst 0 d_X5_run_339 rfl ?_
    refine gb_iald_ 0 rfl (hS 53 _ rfl) (by unfold vp_in; decide) d_X5_run_340 ?_
    cases h
    exact gb_iret d_X5_run_341 rfl ⟨rfl, rfl, rfl⟩
  · have h := gb_if hc h
    refine gb_ldc (-2147483648) k_X5_20 d_X5_run_330 ?_
    refine gb_goto 341 d_X5_run_332 (by decide) ?_
    cases h
    exact gb_iret d_X5_run_341 rfl ⟨rfl, rfl, rfl⟩
set_option maxRecDepth 100000 in
set_option maxHeartbeats 4000000 in
theorem t_X5_run_292 {Γ : gb_X} {sh : List gb_Sh} {b1 : Nat} {a4 : Nat} {n4 : Nat} {out : gb_G × Int32} (hS : gb_S sh) (h_b1 : gb_okX7 sh b1) (h_a4 : sh[a4]? = some (.inl (0, n4))) {K318 : gb_G → Int32 → Int32 → Int32 → Int32 → Option (gb_G × Int32)} (hK318 : ∀ (g : gb_G) (y6 : Int32) (y7 : Int32) (y8 : Int32) (y9 : Int32), K318 g y6 y7 y8 y9 = some out → gb_J Γ M_X5_run 1 (gb_Ri sh out) 0 0 sh g 318 [(0, .ref 52), (1, .ref b1), (4, .ref a4), (6, .int y6), (7, .int y7), (8, .int y8), (9, .int y9)] []) : ∀ (g : gb_G) (y6 : Int32) (y7 : Int32) (y8 : Int32) (y9 : Int32) (z0 : Int32), f_X5_run_292 sh b1 a4 n4 K318 g y6 y7 y8 y9 z0 = some out → gb_J Γ M_X5_run 1 (gb_Ri sh out) 0 0 sh g 292 [(0, .ref 52), (1, .ref b1), (4, .ref a4), (6, .int y6), (7, .int y7), (8, .int y8), (9, .int y9)] [.int z0] := by
  intro g y6 y7 y8 y9 z0 h
  unfold f_X5_run_292 at h
  refine gb_istore [(12, .int z0), (0, .ref 52), (1, .ref b1), (4, .ref a4), (6, .int y6), (7, .int y7), (8, .int y8), (9, .int y9)] d_X5_run_292 (Nat.le_of_ble_eq_true rfl) rfl ?_
  refine gb_iload d_X5_run_294 rfl ?_
  refine gb_ldc (-2147483648) k_X5_20 d_X5_run_296 ?_
  refine gb_icmp_ne 304 d_X5_run_298 (by decide) (fun hc => ?_) (fun hc => ?_)
  · have h := gb_if hc h
    refine gb_iinc (y8 + (-1)) [(8, .int (y8 + (-1))), (12, .int z0), (0, .ref 52), (1, .ref b1), (4, .ref a4), (6, .int y6), (7, .int y7), (9, .int y9)] d_X5_run_304 (Nat.le_of_ble_eq_true rfl) rfl rfl rfl ?_
    refine gb_aload_n d_X5_run_307 rfl ?_
    refine gb_getr (r := 53) f_X5_9 (hS 52 _ rfl) rfl d_X5_run_308 ?_
    refine gb_iload d_X5_run_311 rfl ?_
    refine gb_iconst 1 d_X5_run_313 rfl ?_
    refine gb_isub d_X5_run_314 ?_
    refine gb_iload d_X5_run_315 rfl ?_
    obtain ⟨hi11, h⟩ := gb_ck_e h
    refine gb_iast_ (((y8 + (-1)) - 1).toNatClampNeg) rfl (hS 53 _ rfl) hi11 d_X5_run_317 ?_
    have h := gb_let_e h
    generalize gb_pi g 53 (((y8 + (-1)) - 1).toNatClampNeg) z0 = g12 at h ⊢
    refine gb_pick (lv' := [(0, .ref 52), (1, .ref b1), (4, .ref a4), (6, .int y6), (7, .int y7), (8, .int (y8 + (-1))), (9, .int y9)]) [2, 3, 4, 5, 6, 0, 7] rfl ?_
    exact hK318 _ y6 y7 (y8 + (-1)) y9 h
  · have h := gb_it hc h
    refine gb_ldc (-2147483648) k_X5_20 d_X5_run_301 ?_
    cases h
    exact gb_iret d_X5_run_303 rfl ⟨rfl, rfl, rfl⟩
set_option maxRecDepth 100000 in
set_option maxHeartbeats 4000000 in
theorem t_X5_run_318 {Γ : gb_X} {sh : List gb_Sh} {b1 : Nat} {a4 : Nat} {n4 : Nat} {out : gb_G × Int32} (hS : gb_S sh) (h_b1 : gb_okX7 sh b1) (h_a4 : sh[a4]? = some (.inl (0, n4))) {K75 : gb_G → Int32 → Int32 → Int32 → Int32 → Option (gb_G × Int32)} (hK75 : ∀ (g : gb_G) (y6 : Int32) (y7 : Int32) (y8 : Int32) (y9 : Int32), K75 g y6 y7 y8 y9 = some out → gb_J Γ M_X5_run 1 (gb_Ri sh out) 0 0 sh g 75 [(0, .ref 52), (1, .ref b1), (4, .ref a4), (6, .int y6), (7, .int y7), (8, .int y8), (9, .int y9)] []) : ∀ (g : gb_G) (y6 : Int32) (y7 : Int32) (y8 : Int32) (y9 : Int32), f_X5_run_318 sh b1 a4 n4 K75 g y6 y7 y8 y9 = some out → gb_J Γ M_X5_run 1 (gb_Ri sh out) 0 0 sh g 318 [(0, .ref 52), (1, .ref b1), (4, .ref a4), (6, .int y6), (7, .int y7), (8, .int y8), (9, .int y9)] [] := by
  intro g y6 y7 y8 y9 h
  unfold f_X5_run_318 at h
  refine gb_iinc (y9 + 1) [(9, .int (y9 + 1)), (0, .ref 52), (1, .ref b1), (4, .ref a4), (6, .int y6), (7, .int y7), (8, .int y8)] d_X5_run_318 (Nat.le_of_ble_eq_true rfl) rfl rfl rfl ?_
  refine gb_goto 75 d_X5_run_321 (by decide) ?_
  refine gb_pick (lv' := [(0, .ref 52), (1, .ref b1), (4, .ref a4), (6, .int y6), (7, .int y7), (8, .int y8), (9, .int (y9 + 1))]) [1, 2, 3, 4, 5, 6, 0] rfl ?_
  exact hK75 _ y6 y7 y8 (y9 + 1) h
set_option maxRecDepth 100000 in
set_option maxHeartbeats 4000000 in
theorem t_X5_run_237 {Γ : gb_X} {sh : List gb_Sh} {b1 : Nat} {a4 : Nat} {n4 : Nat} {out : gb_G × Int32} (hS : gb_S sh) (h_b1 : gb_okX7 sh b1) (h_a4 : sh[a4]? = some (.inl (0, n4))) {K318 : gb_G → Int32 → Int32 → Int32 → Int32 → Option (gb_G × Int32)} (hK318 : ∀ (g : gb_G) (y6 : Int32) (y7 : Int32) (y8 : Int32) (y9 : Int32), K318 g y6 y7 y8 y9 = some out → gb_J Γ M_X5_run 1 (gb_Ri sh out) 0 0 sh g 318 [(0, .ref 52), (1, .ref b1), (4, .ref a4), (6, .int y6), (7, .int y7), (8, .int y8), (9, .int y9)] []) : ∀ (g : gb_G) (y6 : Int32) (y7 : Int32) (y8 : Int32) (y9 : Int32) (y11 : Int32) (z0 : Int32) (z1 : Int32), f_X5_run_237 sh b1 a4 n4 K318 g y6 y7 y8 y9 y11 z0 z1 = some out → gb_J Γ M_X5_run 1 (gb_Ri sh out) 0 0 sh g 237 [(0, .ref 52), (1, .ref b1), (4, .ref a4), (6, .int y6), (7, .int y7), (8, .int y8), (9, .int y9), (11, .int y11)] [.int z0, .int z1] := by
  intro g y6 y7 y8 y9 y11 z0 z1 h
  unfold f_X5_run_237 at h
  refine gb_icmp_ne 252 d_X5_run_237 (by decide) (fun hc => ?_) (fun hc => ?_)
  · have h := gb_if hc h
    refine gb_iinc (y8 + (-1)) [(8, .int (y8 + (-1))), (0, .ref 52), (1, .ref b1), (4, .ref a4), (6, .int y6), (7, .int y7), (9, .int y9), (11, .int y11)] d_X5_run_252 (Nat.le_of_ble_eq_true rfl) rfl rfl rfl ?_
    refine gb_goto 318 d_X5_run_255 (by decide) ?_
    refine gb_pick (lv' := [(0, .ref 52), (1, .ref b1), (4, .ref a4), (6, .int y6), (7, .int y7), (8, .int (y8 + (-1))), (9, .int y9)]) [1, 2, 3, 4, 5, 0, 6] rfl ?_
    exact hK318 _ y6 y7 (y8 + (-1)) y9 h
  · have h := gb_it hc h
    refine gb_iload d_X5_run_240 rfl ?_
    refine gb_iload d_X5_run_242 rfl ?_
    obtain ⟨r14, e15, h⟩ := gb_bd_e h
    refine gb_cSi (As := [.int y6, .int y11]) (rest := []) m_X5_37 (t_J9_max_7cf53 (Γ := Γ) hS e15) (Nat.le_of_ble_eq_true rfl) rfl rfl (Nat.le_of_ble_eq_true rfl) d_X5_run_244 ?_
    refine gb_istore [(6, .int r14.2), (0, .ref 52), (1, .ref b1), (4, .ref a4), (7, .int y7), (8, .int y8), (9, .int y9), (11, .int y11)] d_X5_run_247 (Nat.le_of_ble_eq_true rfl) rfl ?_
    refine gb_goto 255 d_X5_run_249 (by decide) ?_
    refine gb_goto 318 d_X5_run_255 (by decide) ?_
    refine gb_pick (lv' := [(0, .ref 52), (1, .ref b1), (4, .ref a4), (6, .int r14.2), (7, .int y7), (8, .int y8), (9, .int y9)]) [1, 2, 3, 0, 4, 5, 6] rfl ?_
    exact hK318 _ r14.2 y7 y8 y9 h
set_option maxRecDepth 100000 in
set_option maxHeartbeats 4000000 in
theorem t_X5_run_145 {Γ : gb_X} {sh : List gb_Sh} {b1 : Nat} {a4 : Nat} {n4 : Nat} {out : gb_G × Int32} (hS : gb_S sh) (h_b1 : gb_okX7 sh b1) (h_a4 : sh[a4]? = some (.inl (0, n4))) : ∀ (g : gb_G) , f_X5_run_145 sh b1 a4 n4 g  = some out → gb_J Γ M_X5_run 1 (gb_Ri sh out) 0 0 sh g 145 [] [] := by
  intro g  h
  unfold f_X5_run_145 at h
  refine gb_ldc (-2147483648) k_X5_20 d_X5_run_145 ?_
  cases h
  exact gb_iret d_X5_run_147 rfl ⟨rfl, rfl, rfl⟩
set_option maxRecDepth 100000 in
set_option maxHeartbeats 4000000 in
theorem t_X5_run_169 {Γ : gb_X} {sh : List gb_Sh} {b1 : Nat} {a4 : Nat} {n4 : Nat} {out : gb_G × Int32} (hS : gb_S sh) (h_b1 : gb_okX7 sh b1) (h_a4 : sh[a4]? = some (.inl (0, n4))) {K318 : gb_G → Int32 → Int32 → Int32 → Int32 → Option (gb_G × Int32)} (hK318 : ∀ (g : gb_G) (y6 : Int32) (y7 : Int32) (y8 : Int32) (y9 : Int32), K318 g y6 y7 y8 y9 = some out → gb_J Γ M_X5_run 1 (gb_Ri sh out) 0 0 sh g 318 [(0, .ref 52), (1, .ref b1), (4, .ref a4), (6, .int y6), (7, .int y7), (8, .int y8), (9, .int y9)] []) : ∀ (g : gb_G) (y6 : Int32) (y7 : Int32) (y8 : Int32) (y9 : Int32) (z0 : Int32) (z1 : Int32), f_X5_run_169 sh b1 a4 n4 K318 g y6 y7 y8 y9 z0 z1 = some out → gb_J Γ M_X5_run 1 (gb_Ri sh out) 0 0 sh g 169 [(0, .ref 52), (1, .ref b1), (4, .ref a4), (6, .int y6), (7, .int y7), (8, .int y8), (9, .int y9)] [.int z0, .int z1, .ref 53] := by
  intro g y6 y7 y8 y9 z0 z1 h
  unfold f_X5_run_169 at h
  obtain ⟨hi19, h⟩ := gb_ck_e h
  refine gb_iast_ z1.toNatClampNeg rfl (hS 53 _ rfl) hi19 d_X5_run_169 ?_
  have h := gb_let_e h
  generalize gb_pi g 53 z1.toNatClampNeg z0 = g20 at h ⊢
  refine gb_iinc (y8 + 1) [(8, .int (y8 + 1)), (0, .ref 52), (1, .ref b1), (4, .ref a4), (6, .int y6), (7, .int y7), (9, .int y9)] d_X5_run_170 (Nat.le_of_ble_eq_true rfl) rfl rfl rfl ?_
  refine gb_goto 318 d_X5_run_173 (by decide) ?_
  refine gb_pick (lv' := [(0, .ref 52), (1, .ref b1), (4, .ref a4), (6, .int y6), (7, .int y7), (8, .int (y8 + 1)), (9, .int y9)]) [1, 2, 3, 4, 5, 0, 6] rfl ?_
  exact hK318 _ y6 y7 (y8 + 1) y9 h
set_option maxRecDepth 100000 in
set_option maxHeartbeats 4000000 in
theorem t_X5_run_148 {Γ : gb_X} {sh : List gb_Sh} {b1 : Nat} {a4 : Nat} {n4 : Nat} {out : gb_G × Int32} (hS : gb_S sh) (h_b1 : gb_okX7 sh b1) (h_a4 : sh[a4]? = some (.inl (0, n4))) {K318 : gb_G → Int32 → Int32 → Int32 → Int32 → Option (gb_G × Int32)} (hK318 : ∀ (g : gb_G) (y6 : Int32) (y7 : Int32) (y8 : Int32) (y9 : Int32), K318 g y6 y7 y8 y9 = some out → gb_J Γ M_X5_run 1 (gb_Ri sh out) 0 0 sh g 318 [(0, .ref 52), (1, .ref b1), (4, .ref a4), (6, .int y6), (7, .int y7), (8, .int y8), (9, .int y9)] []) : ∀ (g : gb_G) (y6 : Int32) (y7 : Int32) (y8 : Int32) (y9 : Int32) (y10 : Int32) (y11 : Int32), f_X5_run_148 sh b1 a4 n4 K318 g y6 y7 y8 y9 y10 y11 = some out → gb_J Γ M_X5_run 1 (gb_Ri sh out) 0 0 sh g 148 [(0, .ref 52), (1, .ref b1), (4, .ref a4), (6, .int y6), (7, .int y7), (8, .int y8), (9, .int y9), (10, .int y10), (11, .int y11)] [] := by
  intro g y6 y7 y8 y9 y10 y11 h
  unfold f_X5_run_148 at h
  refine gb_aload_n d_X5_run_148 rfl ?_
  refine gb_getr (r := 53) f_X5_9 (hS 52 _ rfl) rfl d_X5_run_149 ?_
  refine gb_iload d_X5_run_152 rfl ?_
  refine gb_iload d_X5_run_154 rfl ?_
  refine gb_if_ne 164 d_X5_run_156 (by decide) (fun hc => ?_) (fun hc => ?_)
  · have h := gb_if hc h
    refine gb_aload d_X5_run_164 rfl ?_
    refine gb_iload d_X5_run_166 rfl ?_
    obtain ⟨hi18, h⟩ := gb_ck_e h
    refine gb_iald_ y11.toNatClampNeg rfl h_a4 hi18 d_X5_run_168 ?_
    refine gb_pick (lv' := [(0, .ref 52), (1, .ref b1), (4, .ref a4), (6, .int y6), (7, .int y7), (8, .int y8), (9, .int y9)]) [0, 1, 2, 3, 4, 5, 6] rfl ?_
    exact t_X5_run_169 hS h_b1 h_a4 hK318 _ y6 y7 y8 y9 (g.1 a4 y11.toNatClampNeg) y8 h
  · have h := gb_it hc h
    refine gb_iload d_X5_run_159 rfl ?_
    refine gb_goto 169 d_X5_run_161 (by decide) ?_
    refine gb_pick (lv' := [(0, .ref 52), (1, .ref b1), (4, .ref a4), (6, .int y6), (7, .int y7), (8, .int y8), (9, .int y9)]) [0, 1, 2, 3, 4, 5, 6] rfl ?_
    exact t_X5_run_169 hS h_b1 h_a4 hK318 _ y6 y7 y8 y9 y11 y8 h
set_option maxRecDepth 100000 in
set_option maxHeartbeats 4000000 in
theorem t_X5_run_75 {Γ : gb_X} {sh : List gb_Sh} {b1 : Nat} {a4 : Nat} {n4 : Nat} {out : gb_G × Int32} (hS : gb_S sh) (h_b1 : gb_okX7 sh b1) (h_a4 : sh[a4]? = some (.inl (0, n4))) : ∀ (n : Nat) (g : gb_G) (y6 : Int32) (y7 : Int32) (y8 : Int32) (y9 : Int32), f_X5_run_75 sh b1 a4 n4 n g y6 y7 y8 y9 = some out → gb_J Γ M_X5_run 1 (gb_Ri sh out) 0 0 sh g 75 [(0, .ref 52), (1, .ref b1), (4, .ref a4), (6, .int y6), (7, .int y7), (8, .int y8), (9, .int y9)] [] := by
  intro n
  induction n with
  | zero => intro g y6 y7 y8 y9 h; cases h
  | succ n ih =>
    intro g y6 y7 y8 y9 h
    rw [f_X5_run_75] at h
    refine gb_iload d_X5_run_75 rfl ?_
    refine gb_iload d_X5_run_77 rfl ?_
    refine gb_icmp_ge 324 d_X5_run_79 (by decide) (fun hc => ?_) (fun hc => ?_)
    · have h := gb_it hc h
      refine gb_pick (lv' := [(0, .ref 52), (8, .int y8)]) [0, 5] rfl ?_
      exact t_X5_run_324 hS h_b1 h_a4  _ y8 h
    · have h := gb_if hc h
      refine gb_iload d_X5_run_82 rfl ?_
      refine gb_iload d_X5_run_84 rfl ?_
      refine gb_icmp_ge 324 d_X5_run_86 (by decide) (fun hc => ?_) (fun hc => ?_)
      · have h := gb_it hc h
        refine gb_pick (lv' := [(0, .ref 52), (8, .int y8)]) [0, 5] rfl ?_
        exact t_X5_run_324 hS h_b1 h_a4  _ y8 h
      · have h := gb_if hc h
        refine gb_aload_n d_X5_run_89 rfl ?_
        refine gb_getr (r := (b1 + 1)) f_X5_31 h_b1.1 rfl d_X5_run_90 ?_
        refine gb_iload d_X5_run_93 rfl ?_
        obtain ⟨hi5, h⟩ := gb_ck_e h
        refine gb_iald_ y6.toNatClampNeg rfl h_b1.2.1 hi5 d_X5_run_95 ?_
        refine gb_istore [(10, .int (g.1 (b1 + 1) y6.toNatClampNeg)), (0, .ref 52), (1, .ref b1), (4, .ref a4), (6, .int y6), (7, .int y7), (8, .int y8), (9, .int y9)] d_X5_run_96 (Nat.le_of_ble_eq_true rfl) rfl ?_
        refine gb_aload_n d_X5_run_98 rfl ?_
        refine gb_getr (r := (b1 + 2)) f_X5_34 h_b1.1 rfl d_X5_run_99 ?_
        refine gb_iload d_X5_run_102 rfl ?_
        obtain ⟨hi6, h⟩ := gb_ck_e h
        refine gb_iald_ y6.toNatClampNeg rfl h_b1.2.2.1 hi6 d_X5_run_104 ?_
        refine gb_istore [(11, .int (g.1 (b1 + 2) y6.toNatClampNeg)), (10, .int (g.1 (b1 + 1) y6.toNatClampNeg)), (0, .ref 52), (1, .ref b1), (4, .ref a4), (6, .int y6), (7, .int y7), (8, .int y8), (9, .int y9)] d_X5_run_105 (Nat.le_of_ble_eq_true rfl) rfl ?_
        refine gb_iinc (y6 + 1) [(6, .int (y6 + 1)), (11, .int (g.1 (b1 + 2) y6.toNatClampNeg)), (10, .int (g.1 (b1 + 1) y6.toNatClampNeg)), (0, .ref 52), (1, .ref b1), (4, .ref a4), (7, .int y7), (8, .int y8), (9, .int y9)] d_X5_run_107 (Nat.le_of_ble_eq_true rfl) rfl rfl rfl ?_
        refine gb_iload d_X5_run_110 rfl ?_
        refine gb_iconst 1 d_X5_run_112 rfl ?_
        refine gb_icmp_gt 176 d_X5_run_113 (by decide) (fun hc => ?_) (fun hc => ?_)
        · have h := gb_it hc h
          refine gb_iload d_X5_run_176 rfl ?_
          refine gb_iconst 4 d_X5_run_178 rfl ?_
          refine gb_icmp_gt 258 d_X5_run_179 (by decide) (fun hc => ?_) (fun hc => ?_)
          · have h := gb_it hc h
            refine gb_iload d_X5_run_258 rfl ?_
            refine gb_iconst 2 d_X5_run_260 rfl ?_
            refine gb_icmp_ge 269 d_X5_run_261 (by decide) (fun hc => ?_) (fun hc => ?_)
            · have h := gb_it hc h
              refine gb_iload d_X5_run_269 rfl ?_
              refine gb_aload_n d_X5_run_271 rfl ?_
              refine gb_getr (r := 53) f_X5_9 (hS 52 _ rfl) rfl d_X5_run_272 ?_
              refine gb_iload d_X5_run_275 rfl ?_
              refine gb_iconst 2 d_X5_run_277 rfl ?_
              refine gb_isub d_X5_run_278 ?_
              obtain ⟨hi7, h⟩ := gb_ck_e h
              refine gb_iald_ ((y8 - 2).toNatClampNeg) rfl (hS 53 _ rfl) hi7 d_X5_run_279 ?_
              refine gb_aload_n d_X5_run_280 rfl ?_
              refine gb_getr (r := 53) f_X5_9 (hS 52 _ rfl) rfl d_X5_run_281 ?_
              refine gb_iload d_X5_run_284 rfl ?_
              refine gb_iconst 1 d_X5_run_286 rfl ?_
              refine gb_isub d_X5_run_287 ?_
              obtain ⟨hi8, h⟩ := gb_ck_e h
              refine gb_iald_ ((y8 - 1).toNatClampNeg) rfl (hS 53 _ rfl) hi8 d_X5_run_288 ?_
              obtain ⟨r9, e10, h⟩ := gb_bd_e h
              refine gb_cSi (As := [.int (g.1 (b1 + 1) y6.toNatClampNeg), .int (g.1 53 ((y8 - 2).toNatClampNeg)), .int (g.1 53 ((y8 - 1).toNatClampNeg))]) (rest := []) m_X5_40 (t_X5_join (Γ := Γ) hS e10) (Nat.le_of_ble_eq_true rfl) rfl rfl (Nat.le_of_ble_eq_true rfl) d_X5_run_289 ?_
              refine gb_pick (lv' := [(0, .ref 52), (1, .ref b1), (4, .ref a4), (6, .int (y6 + 1)), (7, .int y7), (8, .int y8), (9, .int y9)]) [3, 4, 5, 0, 6, 7, 8] rfl ?_
              exact t_X5_run_292 hS h_b1 h_a4 (fun w w0 w1 w2 w3 hw => t_X5_run_318 hS h_b1 h_a4 (fun w w0 w1 w2 w3 hw => ih w w0 w1 w2 w3 hw) w w0 w1 w2 w3 hw) _ (y6 + 1) y7 y8 y9 r9.2 h
            · have h := gb_if hc h
              refine gb_ldc (-2147483648) k_X5_20 d_X5_run_264 ?_
              refine gb_goto 292 d_X5_run_266 (by decide) ?_
              refine gb_pick (lv' := [(0, .ref 52), (1, .ref b1), (4, .ref a4), (6, .int (y6 + 1)), (7, .int y7), (8, .int y8), (9, .int y9)]) [3, 4, 5, 0, 6, 7, 8] rfl ?_
              exact t_X5_run_292 hS h_b1 h_a4 (fun w w0 w1 w2 w3 hw => t_X5_run_318 hS h_b1 h_a4 (fun w w0 w1 w2 w3 hw => ih w w0 w1 w2 w3 hw) w w0 w1 w2 w3 hw) _ (y6 + 1) y7 y8 y9 (-2147483648) h
          · have h := gb_if hc h
            refine gb_iload d_X5_run_182 rfl ?_
            refine gb_iconst 1 d_X5_run_184 rfl ?_
            refine gb_icmp_ge 191 d_X5_run_185 (by decide) (fun hc => ?_) (fun hc => ?_)
            · have h := gb_it hc h
              refine gb_aload_n d_X5_run_191 rfl ?_
              refine gb_getr (r := 53) f_X5_9 (hS 52 _ rfl) rfl d_X5_run_192 ?_
              refine gb_iload d_X5_run_195 rfl ?_
              refine gb_iconst 1 d_X5_run_197 rfl ?_
              refine gb_isub d_X5_run_198 ?_
              obtain ⟨hi13, h⟩ := gb_ck_e h
              refine gb_iald_ ((y8 - 1).toNatClampNeg) rfl (hS 53 _ rfl) hi13 d_X5_run_199 ?_
              refine gb_istore [(12, .int (g.1 53 ((y8 - 1).toNatClampNeg))), (6, .int (y6 + 1)), (11, .int (g.1 (b1 + 2) y6.toNatClampNeg)), (10, .int (g.1 (b1 + 1) y6.toNatClampNeg)), (0, .ref 52), (1, .ref b1), (4, .ref a4), (7, .int y7), (8, .int y8), (9, .int y9)] d_X5_run_200 (Nat.le_of_ble_eq_true rfl) rfl ?_
              refine gb_iload d_X5_run_202 rfl ?_
              refine gb_iconst 2 d_X5_run_204 rfl ?_
              refine gb_icmp_ne 224 d_X5_run_205 (by decide) (fun hc => ?_) (fun hc => ?_)
              · have h := gb_if hc h
                refine gb_iload d_X5_run_224 rfl ?_
                refine gb_iload d_X5_run_226 rfl ?_
                refine gb_iconst 3 d_X5_run_228 rfl ?_
                refine gb_icmp_ne 236 d_X5_run_229 (by decide) (fun hc => ?_) (fun hc => ?_)
                · have h := gb_if hc h
                  refine gb_iconst 0 d_X5_run_236 rfl ?_
                  refine gb_pick (lv' := [(0, .ref 52), (1, .ref b1), (4, .ref a4), (6, .int (y6 + 1)), (7, .int y7), (8, .int y8), (9, .int y9), (11, .int (g.1 (b1 + 2) y6.toNatClampNeg))]) [4, 5, 6, 1, 7, 8, 9, 2] rfl ?_
                  exact t_X5_run_237 hS h_b1 h_a4 (fun w w0 w1 w2 w3 hw => t_X5_run_318 hS h_b1 h_a4 (fun w w0 w1 w2 w3 hw => ih w w0 w1 w2 w3 hw) w w0 w1 w2 w3 hw) _ (y6 + 1) y7 y8 y9 (g.1 (b1 + 2) y6.toNatClampNeg) 0 (g.1 53 ((y8 - 1).toNatClampNeg)) h
                · have h := gb_it hc h
                  refine gb_iconst 1 d_X5_run_232 rfl ?_
                  refine gb_goto 237 d_X5_run_233 (by decide) ?_
                  refine gb_pick (lv' := [(0, .ref 52), (1, .ref b1), (4, .ref a4), (6, .int (y6 + 1)), (7, .int y7), (8, .int y8), (9, .int y9), (11, .int (g.1 (b1 + 2) y6.toNatClampNeg))]) [4, 5, 6, 1, 7, 8, 9, 2] rfl ?_
                  exact t_X5_run_237 hS h_b1 h_a4 (fun w w0 w1 w2 w3 hw => t_X5_run_318 hS h_b1 h_a4 (fun w w0 w1 w2 w3 hw => ih w w0 w1 w2 w3 hw) w w0 w1 w2 w3 hw) _ (y6 + 1) y7 y8 y9 (g.1 (b1 + 2) y6.toNatClampNeg) 1 (g.1 53 ((y8 - 1).toNatClampNeg)) h
              · have h := gb_it hc h
                refine gb_aload_n d_X5_run_208 rfl ?_
                refine gb_getr (r := 53) f_X5_9 (hS 52 _ rfl) rfl d_X5_run_209 ?_
                refine gb_iload d_X5_run_212 rfl ?_
                refine gb_iconst 1 d_X5_run_214 rfl ?_
                refine gb_isub d_X5_run_215 ?_
                refine gb_iconst 1 d_X5_run_216 rfl ?_
                refine gb_iload d_X5_run_217 rfl ?_
                refine gb_isub d_X5_run_219 ?_
                obtain ⟨hi16, h⟩ := gb_ck_e h
                refine gb_iast_ ((y8 - 1).toNatClampNeg) rfl (hS 53 _ rfl) hi16 d_X5_run_220 ?_
                have h := gb_let_e h
                generalize gb_pi g 53 ((y8 - 1).toNatClampNeg) (1 - (g.1 53 ((y8 - 1).toNatClampNeg))) = g17 at h ⊢
                refine gb_goto 255 d_X5_run_221 (by decide) ?_
                refine gb_goto 318 d_X5_run_255 (by decide) ?_
                refine gb_pick (lv' := [(0, .ref 52), (1, .ref b1), (4, .ref a4), (6, .int (y6 + 1)), (7, .int y7), (8, .int y8), (9, .int y9)]) [4, 5, 6, 1, 7, 8, 9] rfl ?_
                exact t_X5_run_318 hS h_b1 h_a4 (fun w w0 w1 w2 w3 hw => ih w w0 w1 w2 w3 hw) _ (y6 + 1) y7 y8 y9 h
            · have h := gb_if hc h
              refine gb_ldc (-2147483648) k_X5_20 d_X5_run_188 ?_
              cases h
              exact gb_iret d_X5_run_190 rfl ⟨rfl, rfl, rfl⟩
        · have h := gb_if hc h
          refine gb_iload d_X5_run_116 rfl ?_
          refine gb_aload_n d_X5_run_118 rfl ?_
          refine gb_getr (r := 53) f_X5_9 (hS 52 _ rfl) rfl d_X5_run_119 ?_
          refine gb_alen 51 (by decide) (hS 53 _ rfl) rfl d_X5_run_122 ?_
          refine gb_icmp_ge 145 d_X5_run_123 (by decide) (fun hc => ?_) (fun hc => ?_)
          · have h := gb_it hc h
            refine gb_pick (lv' := []) [] rfl ?_
            exact t_X5_run_145 hS h_b1 h_a4  _  h
          · have h := gb_if hc h
            refine gb_iload d_X5_run_126 rfl ?_
            refine gb_iconst 1 d_X5_run_128 rfl ?_
            refine gb_icmp_ne 148 d_X5_run_129 (by decide) (fun hc => ?_) (fun hc => ?_)
            · have h := gb_if hc h
              refine gb_pick (lv' := [(0, .ref 52), (1, .ref b1), (4, .ref a4), (6, .int (y6 + 1)), (7, .int y7), (8, .int y8), (9, .int y9), (10, .int (g.1 (b1 + 1) y6.toNatClampNeg)), (11, .int (g.1 (b1 + 2) y6.toNatClampNeg))]) [3, 4, 5, 0, 6, 7, 8, 2, 1] rfl ?_
              exact t_X5_run_148 hS h_b1 h_a4 (fun w w0 w1 w2 w3 hw => t_X5_run_318 hS h_b1 h_a4 (fun w w0 w1 w2 w3 hw => ih w w0 w1 w2 w3 hw) w w0 w1 w2 w3 hw) _ (y6 + 1) y7 y8 y9 (g.1 (b1 + 1) y6.toNatClampNeg) (g.1 (b1 + 2) y6.toNatClampNeg) h
            · have h := gb_it hc h
              refine gb_iload d_X5_run_132 rfl ?_
              refine gb_if_lt 145 d_X5_run_134 (by decide) (fun hc => ?_) (fun hc => ?_)
              · have h := gb_it hc h
                refine gb_pick (lv' := []) [] rfl ?_
                exact t_X5_run_145 hS h_b1 h_a4  _  h
              · have h := gb_if hc h
                refine gb_iload d_X5_run_137 rfl ?_
                refine gb_aload d_X5_run_139 rfl ?_
                refine gb_alen (Int32.ofNat n4) (by decide) h_a4 rfl d_X5_run_141 ?_
                refine gb_icmp_lt 148 d_X5_run_142 (by decide) (fun hc => ?_) (fun hc => ?_)
                · have h := gb_it hc h
                  refine gb_pick (lv' := [(0, .ref 52), (1, .ref b1), (4, .ref a4), (6, .int (y6 + 1)), (7, .int y7), (8, .int y8), (9, .int y9), (10, .int (g.1 (b1 + 1) y6.toNatClampNeg)), (11, .int (g.1 (b1 + 2) y6.toNatClampNeg))]) [3, 4, 5, 0, 6, 7, 8, 2, 1] rfl ?_
                  exact t_X5_run_148 hS h_b1 h_a4 (fun w w0 w1 w2 w3 hw => t_X5_run_318 hS h_b1 h_a4 (fun w w0 w1 w2 w3 hw => ih w w0 w1 w2 w3 hw) w w0 w1 w2 w3 hw) _ (y6 + 1) y7 y8 y9 (g.1 (b1 + 1) y6.toNatClampNeg) (g.1 (b1 + 2) y6.toNatClampNeg) h
                · have h := gb_if hc h
                  refine gb_pick (lv' := []) [] rfl ?_
                  exact t_X5_run_145 hS h_b1 h_a4  _  h
set_option maxRecDepth 100000 in
set_option maxHeartbeats 4000000 in
theorem t_X5_run {Γ : gb_X} {sh : List gb_Sh} {b1 : Nat} {x2 : Int32} {x3 : Int32} {a4 : Nat} {n4 : Nat} {out : gb_G × Int32} (hS : gb_S sh) (h_b1 : gb_okX7 sh b1) (h_a4 : sh[a4]? = some (.inl (0, n4))) {g : gb_G} (h : f_X5_run sh g b1 x2 x3 a4 n4 = some out) : gb_C Γ M_X5_run 1 0 0 sh g [.ref 52, .ref b1, .int x2, .int x3, .ref a4] (gb_Ri sh out) := by
  refine gb_C.of rfl (Nat.le_of_ble_eq_true rfl) ?_
  refine gb_pick (lv' := [(0, .ref 52), (1, .ref b1), (2, .int x2), (3, .int x3), (4, .ref a4)]) [0, 1, 2, 3, 4] rfl ?_
  unfold f_X5_run at h
  refine gb_iload_n d_X5_run_0 rfl ?_
  refine gb_iconst 3 d_X5_run_1 rfl ?_
  refine gb_imul d_X5_run_2 ?_
  refine gb_iload_n d_X5_run_3 rfl ?_
  refine gb_iadd d_X5_run_4 ?_
  refine gb_istore [(5, .int ((x2 * 3) + x3)), (0, .ref 52), (1, .ref b1), (2, .int x2), (3, .int x3), (4, .ref a4)] d_X5_run_5 (Nat.le_of_ble_eq_true rfl) rfl ?_
  refine gb_iload d_X5_run_7 rfl ?_
  refine gb_if_lt 24 d_X5_run_9 (by decide) (fun hc => ?_) (fun hc => ?_)
  · have h := gb_it hc h
    refine gb_pick (lv' := []) [] rfl ?_
    exact t_X5_run_24 hS h_b1 h_a4  _  h
  · have h := gb_if hc h
    refine gb_iload d_X5_run_12 rfl ?_
    refine gb_iconst 1 d_X5_run_14 rfl ?_
    refine gb_iadd d_X5_run_15 ?_
    refine gb_aload_n d_X5_run_16 rfl ?_
    refine gb_getr (r := (b1 + 5)) f_X5_15 h_b1.1 rfl d_X5_run_17 ?_
    refine gb_alen (Int32.ofNat (gb_ln sh (b1 + 5))) (by decide) h_b1.2.2.2.2.2 rfl d_X5_run_20 ?_
    refine gb_icmp_lt 27 d_X5_run_21 (by decide) (fun hc => ?_) (fun hc => ?_)
    · have h := gb_it hc h
      refine gb_aload_n d_X5_run_27 rfl ?_
      refine gb_getr (r := (b1 + 5)) f_X5_15 h_b1.1 rfl d_X5_run_28 ?_
      refine gb_iload d_X5_run_31 rfl ?_
      obtain ⟨hi1, h⟩ := gb_ck_e h
      refine gb_iald_ (((x2 * 3) + x3).toNatClampNeg) rfl h_b1.2.2.2.2.2 hi1 d_X5_run_33 ?_
      refine gb_istore [(6, .int (g.1 (b1 + 5) (((x2 * 3) + x3).toNatClampNeg))), (5, .int ((x2 * 3) + x3)), (0, .ref 52), (1, .ref b1), (2, .int x2), (3, .int x3), (4, .ref a4)] d_X5_run_34 (Nat.le_of_ble_eq_true rfl) rfl ?_
      refine gb_aload_n d_X5_run_36 rfl ?_
      refine gb_geti f_X5_21 h_b1.1 rfl d_X5_run_37 ?_
      refine gb_aload_n d_X5_run_40 rfl ?_
      refine gb_getr (r := (b1 + 5)) f_X5_15 h_b1.1 rfl d_X5_run_41 ?_
      refine gb_iload d_X5_run_44 rfl ?_
      refine gb_iconst 1 d_X5_run_46 rfl ?_
      refine gb_iadd d_X5_run_47 ?_
      obtain ⟨hi2, h⟩ := gb_ck_e h
      refine gb_iald_ ((((x2 * 3) + x3) + 1).toNatClampNeg) rfl h_b1.2.2.2.2.2 hi2 d_X5_run_48 ?_
      obtain ⟨r3, e4, h⟩ := gb_bd_e h
      refine gb_cSi (As := [.int (g.1 b1 0), .int (g.1 (b1 + 5) ((((x2 * 3) + x3) + 1).toNatClampNeg))]) (rest := []) m_X5_25 (t_J9_min_7cf53 (Γ := Γ) hS e4) (Nat.le_of_ble_eq_true rfl) rfl rfl (Nat.le_of_ble_eq_true rfl) d_X5_run_49 ?_
      refine gb_istore [(7, .int r3.2), (6, .int (g.1 (b1 + 5) (((x2 * 3) + x3).toNatClampNeg))), (5, .int ((x2 * 3) + x3)), (0, .ref 52), (1, .ref b1), (2, .int x2), (3, .int x3), (4, .ref a4)] d_X5_run_52 (Nat.le_of_ble_eq_true rfl) rfl ?_
      refine gb_iload d_X5_run_54 rfl ?_
      refine gb_if_lt 66 d_X5_run_56 (by decide) (fun hc => ?_) (fun hc => ?_)
      · have h := gb_it hc h
        refine gb_iconst 1 d_X5_run_66 rfl ?_
        cases h
        exact gb_iret d_X5_run_67 rfl ⟨rfl, rfl, rfl⟩
      · have h := gb_if hc h
        refine gb_iload d_X5_run_59 rfl ?_
        refine gb_iload d_X5_run_61 rfl ?_
        refine gb_icmp_lt 68 d_X5_run_63 (by decide) (fun hc => ?_) (fun hc => ?_)
        · have h := gb_it hc h
          refine gb_iconst 0 d_X5_run_68 rfl ?_
          refine gb_istore [(8, .int 0), (7, .int r3.2), (6, .int (g.1 (b1 + 5) (((x2 * 3) + x3).toNatClampNeg))), (5, .int ((x2 * 3) + x3)), (0, .ref 52), (1, .ref b1), (2, .int x2), (3, .int x3), (4, .ref a4)] d_X5_run_69 (Nat.le_of_ble_eq_true rfl) rfl ?_
          refine gb_iload d_X5_run_71 rfl ?_
          refine gb_istore [(9, .int (g.1 (b1 + 5) (((x2 * 3) + x3).toNatClampNeg))), (8, .int 0), (7, .int r3.2), (6, .int (g.1 (b1 + 5) (((x2 * 3) + x3).toNatClampNeg))), (5, .int ((x2 * 3) + x3)), (0, .ref 52), (1, .ref b1), (2, .int x2), (3, .int x3), (4, .ref a4)] d_X5_run_73 (Nat.le_of_ble_eq_true rfl) rfl ?_
          refine gb_pick (lv' := [(0, .ref 52), (1, .ref b1), (4, .ref a4), (6, .int (g.1 (b1 + 5) (((x2 * 3) + x3).toNatClampNeg))), (7, .int r3.2), (8, .int 0), (9, .int (g.1 (b1 + 5) (((x2 * 3) + x3).toNatClampNeg)))]) [5, 6, 9, 3, 2, 1, 0] rfl ?_
          exact t_X5_run_75 hS h_b1 h_a4  gb_N _ (g.1 (b1 + 5) (((x2 * 3) + x3).toNatClampNeg)) r3.2 0 (g.1 (b1 + 5) (((x2 * 3) + x3).toNatClampNeg)) h
        · have h := gb_if hc h
          refine gb_iconst 1 d_X5_run_66 rfl ?_
          cases h
          exact gb_iret d_X5_run_67 rfl ⟨rfl, rfl, rfl⟩
    · have h := gb_if hc h
      refine gb_pick (lv' := []) [] rfl ?_
      exact t_X5_run_24 hS h_b1 h_a4  _  h
