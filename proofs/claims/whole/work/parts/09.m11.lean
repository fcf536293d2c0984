-- X11_findNow
noncomputable def f_X11_findNow (sh : List gb_Sh) (g : gb_G) (x1 : Int32) : Option (gb_G × Int32) := gb_bd (f_X11_isGood sh g x1) (fun r1 => if r1.2 = 0 then (some (r1.1, (-2))) else (gb_ck (16 + x1) 5520 (if (r1.1.1 79 ((16 + x1).toNatClampNeg)) = 0 then (some (r1.1, (-3))) else (gb_bd (f_X11_remember sh r1.1 1) (fun r4 => gb_ck (16 + x1) 5520 (gb_let (gb_pi r4 79 ((16 + x1).toNatClampNeg) 0) (fun g7 => gb_bd (f_X11_lackingOnes sh g7) (fun r8 => some (r8.1, r8.2)))))))))
set_option maxRecDepth 100000 in
set_option maxHeartbeats 4000000 in
theorem t_X11_findNow {Γ : gb_X} {sh : List gb_Sh} {x1 : Int32} {out : gb_G × Int32} (hS : gb_S sh) {g : gb_G} (h : f_X11_findNow sh g x1 = some out) : gb_C Γ M_X11_findNow 2 0 0 sh g [.ref 77, .int x1] (gb_Ri sh out) := by
  refine gb_C.of rfl (Nat.le_of_ble_eq_true rfl) ?_
  refine gb_pick (lv' := [(0, .ref 77), (1, .int x1)]) [0, 1] rfl ?_
  unfold f_X11_findNow at h
  refine gb_aload_n d_X11_findNow_0 rfl ?_
  refine gb_iload_n d_X11_findNow_1 rfl ?_
  obtain ⟨r1, e2, h⟩ := gb_bd_e h
  refine gb_cVi (As := [.int x1]) (rest := []) m_X11_184 (t_X11_isGood (Γ := Γ) hS e2) (hS 77 _ rfl) rfl (Nat.le_of_ble_eq_true rfl) rfl rfl (Nat.le_of_ble_eq_true rfl) d_X11_findNow_2 ?_
  refine gb_if_ne 11 d_X11_findNow_5 (by decide) (fun hc => ?_) (fun hc => ?_)
  · have h := gb_if hc h
    refine gb_aload_n d_X11_findNow_11 rfl ?_
    refine gb_getr (r := 79) f_X11_13 (hS 77 _ rfl) rfl d_X11_findNow_12 ?_
    refine gb_bipush 16 d_X11_findNow_15 rfl ?_
    refine gb_iload_n d_X11_findNow_17 rfl ?_
    refine gb_iadd d_X11_findNow_18 ?_
    obtain ⟨hi3, h⟩ := gb_ck_e h
    refine gb_iald_ ((16 + x1).toNatClampNeg) rfl (hS 79 _ rfl) hi3 d_X11_findNow_19 ?_
    refine gb_if_ne 26 d_X11_findNow_20 (by decide) (fun hc => ?_) (fun hc => ?_)
    · have h := gb_if hc h
      refine gb_aload_n d_X11_findNow_26 rfl ?_
      refine gb_iconst 1 d_X11_findNow_27 rfl ?_
      obtain ⟨r4, e5, h⟩ := gb_bd_e h
      refine gb_cVv (As := [.int 1]) (rest := []) m_X11_407 (t_X11_remember (Γ := Γ) hS e5) (hS 77 _ rfl) rfl (Nat.le_of_ble_eq_true rfl) rfl rfl (Nat.le_of_ble_eq_true rfl) d_X11_findNow_28 ?_
      refine gb_aload_n d_X11_findNow_31 rfl ?_
      refine gb_getr (r := 79) f_X11_13 (hS 77 _ rfl) rfl d_X11_findNow_32 ?_
      refine gb_bipush 16 d_X11_findNow_35 rfl ?_
      refine gb_iload_n d_X11_findNow_37 rfl ?_
      refine gb_iadd d_X11_findNow_38 ?_
      refine gb_iconst 0 d_X11_findNow_39 rfl ?_
      obtain ⟨hi6, h⟩ := gb_ck_e h
      refine gb_iast_ ((16 + x1).toNatClampNeg) rfl (hS 79 _ rfl) hi6 d_X11_findNow_40 ?_
      have h := gb_let_e h
      generalize gb_pi r4 79 ((16 + x1).toNatClampNeg) 0 = g7 at h ⊢
      refine gb_aload_n d_X11_findNow_41 rfl ?_
      obtain ⟨r8, e9, h⟩ := gb_bd_e h
      refine gb_cVi (As := []) (rest := []) m_X11_410 (t_X11_lackingOnes (Γ := Γ) hS e9) (hS 77 _ rfl) rfl (Nat.le_of_ble_eq_true rfl) rfl rfl (Nat.le_of_ble_eq_true rfl) d_X11_findNow_42 ?_
      cases h
      exact gb_iret d_X11_findNow_45 rfl ⟨rfl, rfl, rfl⟩
    · have h := gb_it hc h
      refine gb_bipush (-3) d_X11_findNow_23 rfl ?_
      cases h
      exact gb_iret d_X11_findNow_25 rfl ⟨rfl, rfl, rfl⟩
  · have h := gb_it hc h
    refine gb_bipush (-2) d_X11_findNow_8 rfl ?_
    cases h
    exact gb_iret d_X11_findNow_10 rfl ⟨rfl, rfl, rfl⟩
-- X11_find
noncomputable def f_X11_find (sh : List gb_Sh) (g : gb_G) (x1 : Int32) : Option (gb_G × Int32) := gb_let (gb_pi g 77 0 0) (fun g1 => gb_bd (f_X11_findNow sh g1 x1) (fun r2 => gb_bd (f_X11_tell sh r2.1 r2.2) (fun r4 => some (r4.1, r4.2))))
set_option maxRecDepth 100000 in
set_option maxHeartbeats 4000000 in
theorem t_X11_find {Γ : gb_X} {sh : List gb_Sh} {x1 : Int32} {out : gb_G × Int32} (hS : gb_S sh) {g : gb_G} (h : f_X11_find sh g x1 = some out) : gb_C Γ M_X11_find 3 0 0 sh g [.ref 77, .int x1] (gb_Ri sh out) := by
  refine gb_C.of rfl (Nat.le_of_ble_eq_true rfl) ?_
  refine gb_pick (lv' := [(0, .ref 77), (1, .int x1)]) [0, 1] rfl ?_
  unfold f_X11_find at h
  refine gb_aload_n d_X11_find_0 rfl ?_
  refine gb_iconst 0 d_X11_find_1 rfl ?_
  refine gb_puti f_X11_145 (fun h => nomatch h) (hS 77 _ rfl) rfl rfl rfl d_X11_find_2 ?_
  have h := gb_let_e h
  generalize gb_pi g 77 0 0 = g1 at h ⊢
  refine gb_aload_n d_X11_find_5 rfl ?_
  refine gb_aload_n d_X11_find_6 rfl ?_
  refine gb_iload_n d_X11_find_7 rfl ?_
  obtain ⟨r2, e3, h⟩ := gb_bd_e h
  refine gb_cVi (As := [.int x1]) (rest := [.ref 77]) m_X11_416 (t_X11_findNow (Γ := Γ) hS e3) (hS 77 _ rfl) rfl (Nat.le_of_ble_eq_true rfl) rfl rfl (Nat.le_of_ble_eq_true rfl) d_X11_find_8 ?_
  obtain ⟨r4, e5, h⟩ := gb_bd_e h
  refine gb_cVi (As := [.int r2.2]) (rest := []) m_X11_154 (t_X11_tell (Γ := Γ) hS e5) (hS 77 _ rfl) rfl (Nat.le_of_ble_eq_true rfl) rfl rfl (Nat.le_of_ble_eq_true rfl) d_X11_find_11 ?_
  cases h
  exact gb_iret d_X11_find_14 rfl ⟨rfl, rfl, rfl⟩
-- X11_weighNow
noncomputable def f_X11_weighNow (sh : List gb_Sh) (g : gb_G) (x1 : Int32) (x2 : Int32) : Option (gb_G × Int32) := gb_bd (f_X11_in sh g x2.toInt64 0 99) (fun r1 => if r1.2 = 0 then (some (r1.1, (-1))) else (gb_bd (f_X11_isGood sh r1.1 x1) (fun r3 => if r3.2 = 0 then (some (r3.1, (-2))) else (gb_bd (f_X11_remember sh r3.1 2) (fun r5 => gb_ck (24 + x1) 5520 (gb_ck (24 + x1) 5520 (gb_let (gb_pi r5 79 ((24 + x1).toNatClampNeg) x2) (fun g9 => some (g9, (r5.1 79 ((24 + x1).toNatClampNeg)))))))))))
set_option maxRecDepth 100000 in
set_option maxHeartbeats 4000000 in
theorem t_X11_weighNow {Γ : gb_X} {sh : List gb_Sh} {x1 : Int32} {x2 : Int32} {out : gb_G × Int32} (hS : gb_S sh) {g : gb_G} (h : f_X11_weighNow sh g x1 x2 = some out) : gb_C Γ M_X11_weighNow 2 0 0 sh g [.ref 77, .int x1, .int x2] (gb_Ri sh out) := by
  refine gb_C.of rfl (Nat.le_of_ble_eq_true rfl) ?_
  refine gb_pick (lv' := [(0, .ref 77), (1, .int x1), (2, .int x2)]) [0, 1, 2] rfl ?_
  unfold f_X11_weighNow at h
  refine gb_iload_n d_X11_weighNow_0 rfl ?_
  refine gb_i2l d_X11_weighNow_1 ?_
  refine gb_lconst 0 d_X11_weighNow_2 rfl ?_
  refine gb_ldc2 99 k_X11_174 d_X11_weighNow_3 ?_
  obtain ⟨r1, e2, h⟩ := gb_bd_e h
  refine gb_cSi (As := [.long x2.toInt64, .long 0, .long 99]) (rest := []) m_X11_165 (t_X11_in (Γ := Γ) hS e2) (Nat.le_of_ble_eq_true rfl) rfl rfl (Nat.le_of_ble_eq_true rfl) d_X11_weighNow_6 ?_
  refine gb_if_ne 14 d_X11_weighNow_9 (by decide) (fun hc => ?_) (fun hc => ?_)
  · have h := gb_if hc h
    refine gb_aload_n d_X11_weighNow_14 rfl ?_
    refine gb_iload_n d_X11_weighNow_15 rfl ?_
    obtain ⟨r3, e4, h⟩ := gb_bd_e h
    refine gb_cVi (As := [.int x1]) (rest := []) m_X11_184 (t_X11_isGood (Γ := Γ) hS e4) (hS 77 _ rfl) rfl (Nat.le_of_ble_eq_true rfl) rfl rfl (Nat.le_of_ble_eq_true rfl) d_X11_weighNow_16 ?_
    refine gb_if_ne 25 d_X11_weighNow_19 (by decide) (fun hc => ?_) (fun hc => ?_)
    · have h := gb_if hc h
      refine gb_aload_n d_X11_weighNow_25 rfl ?_
      refine gb_iconst 2 d_X11_weighNow_26 rfl ?_
      obtain ⟨r5, e6, h⟩ := gb_bd_e h
      refine gb_cVv (As := [.int 2]) (rest := []) m_X11_407 (t_X11_remember (Γ := Γ) hS e6) (hS 77 _ rfl) rfl (Nat.le_of_ble_eq_true rfl) rfl rfl (Nat.le_of_ble_eq_true rfl) d_X11_weighNow_27 ?_
      refine gb_aload_n d_X11_weighNow_30 rfl ?_
      refine gb_getr (r := 79) f_X11_13 (hS 77 _ rfl) rfl d_X11_weighNow_31 ?_
      refine gb_bipush 24 d_X11_weighNow_34 rfl ?_
      refine gb_iload_n d_X11_weighNow_36 rfl ?_
      refine gb_iadd d_X11_weighNow_37 ?_
      obtain ⟨hi7, h⟩ := gb_ck_e h
      refine gb_iald_ ((24 + x1).toNatClampNeg) rfl (hS 79 _ rfl) hi7 d_X11_weighNow_38 ?_
      refine gb_istore_n [(3, .int (r5.1 79 ((24 + x1).toNatClampNeg))), (0, .ref 77), (1, .int x1), (2, .int x2)] d_X11_weighNow_39 (Nat.le_of_ble_eq_true rfl) rfl ?_
      refine gb_aload_n d_X11_weighNow_40 rfl ?_
      refine gb_getr (r := 79) f_X11_13 (hS 77 _ rfl) rfl d_X11_weighNow_41 ?_
      refine gb_bipush 24 d_X11_weighNow_44 rfl ?_
      refine gb_iload_n d_X11_weighNow_46 rfl ?_
      refine gb_iadd d_X11_weighNow_47 ?_
      refine gb_iload_n d_X11_weighNow_48 rfl ?_
      obtain ⟨hi8, h⟩ := gb_ck_e h
      refine gb_iast_ ((24 + x1).toNatClampNeg) rfl (hS 79 _ rfl) hi8 d_X11_weighNow_49 ?_
      have h := gb_let_e h
      generalize gb_pi r5 79 ((24 + x1).toNatClampNeg) x2 = g9 at h ⊢
      refine gb_iload_n d_X11_weighNow_50 rfl ?_
      cases h
      exact gb_iret d_X11_weighNow_51 rfl ⟨rfl, rfl, rfl⟩
    · have h := gb_it hc h
      refine gb_bipush (-2) d_X11_weighNow_22 rfl ?_
      cases h
      exact gb_iret d_X11_weighNow_24 rfl ⟨rfl, rfl, rfl⟩
  · have h := gb_it hc h
    refine gb_iconst (-1) d_X11_weighNow_12 rfl ?_
    cases h
    exact gb_iret d_X11_weighNow_13 rfl ⟨rfl, rfl, rfl⟩
-- X11_weigh
noncomputable def f_X11_weigh (sh : List gb_Sh) (g : gb_G) (x1 : Int32) (x2 : Int32) : Option (gb_G × Int32) := gb_let (gb_pi g 77 0 0) (fun g1 => gb_bd (f_X11_weighNow sh g1 x1 x2) (fun r2 => gb_bd (f_X11_tell sh r2.1 r2.2) (fun r4 => some (r4.1, r4.2))))
set_option maxRecDepth 100000 in
set_option maxHeartbeats 4000000 in
theorem t_X11_weigh {Γ : gb_X} {sh : List gb_Sh} {x1 : Int32} {x2 : Int32} {out : gb_G × Int32} (hS : gb_S sh) {g : gb_G} (h : f_X11_weigh sh g x1 x2 = some out) : gb_C Γ M_X11_weigh 3 0 0 sh g [.ref 77, .int x1, .int x2] (gb_Ri sh out) := by
  refine gb_C.of rfl (Nat.le_of_ble_eq_true rfl) ?_
  refine gb_pick (lv' := [(0, .ref 77), (1, .int x1), (2, .int x2)]) [0, 1, 2] rfl ?_
  unfold f_X11_weigh at h
  refine gb_aload_n d_X11_weigh_0 rfl ?_
  refine gb_iconst 0 d_X11_weigh_1 rfl ?_
  refine gb_puti f_X11_145 (fun h => nomatch h) (hS 77 _ rfl) rfl rfl rfl d_X11_weigh_2 ?_
  have h := gb_let_e h
  generalize gb_pi g 77 0 0 = g1 at h ⊢
  refine gb_aload_n d_X11_weigh_5 rfl ?_
  refine gb_aload_n d_X11_weigh_6 rfl ?_
  refine gb_iload_n d_X11_weigh_7 rfl ?_
  refine gb_iload_n d_X11_weigh_8 rfl ?_
  obtain ⟨r2, e3, h⟩ := gb_bd_e h
  refine gb_cVi (As := [.int x1, .int x2]) (rest := [.ref 77]) m_X11_419 (t_X11_weighNow (Γ := Γ) hS e3) (hS 77 _ rfl) rfl (Nat.le_of_ble_eq_true rfl) rfl rfl (Nat.le_of_ble_eq_true rfl) d_X11_weigh_9 ?_
  obtain ⟨r4, e5, h⟩ := gb_bd_e h
  refine gb_cVi (As := [.int r2.2]) (rest := []) m_X11_154 (t_X11_tell (Γ := Γ) hS e5) (hS 77 _ rfl) rfl (Nat.le_of_ble_eq_true rfl) rfl rfl (Nat.le_of_ble_eq_true rfl) d_X11_weigh_12 ?_
  cases h
  exact gb_iret d_X11_weigh_15 rfl ⟨rfl, rfl, rfl⟩
-- X11_passIt
noncomputable def f_X11_passIt_2 (sh : List gb_Sh) : Nat → gb_G → Int32 → Option (gb_G)
  | 0, _, _ => none
  | n + 1, g, y1 => if (g.1 79 0) ≤ y1 then (gb_let (gb_pi g 79 5 ((g.1 79 5) + 1)) (fun g1 => some g1)) else (gb_ck (8 + y1) 5520 (gb_bd (f_X11_movesOf sh g y1) (fun r3 => gb_bd (f_X11_within sh r3.1 (((g.1 79 ((8 + y1).toNatClampNeg)) + r3.2).toInt64) 1 12) (fun r5 => gb_ck (8 + y1) 5520 (gb_let (gb_pi r5.1 79 ((8 + y1).toNatClampNeg) r5.2) (fun g8 => f_X11_passIt_2 sh n g8 (y1 + 1)))))))
noncomputable def f_X11_passIt (sh : List gb_Sh) (g : gb_G) : Option (gb_G) := f_X11_passIt_2 sh gb_N g 0
set_option maxRecDepth 100000 in
set_option maxHeartbeats 4000000 in
theorem t_X11_passIt_2 {Γ : gb_X} {sh : List gb_Sh} {out : gb_G} (hS : gb_S sh) : ∀ (n : Nat) (g : gb_G) (y1 : Int32), f_X11_passIt_2 sh n g y1 = some out → gb_J Γ M_X11_passIt 6 (gb_Rv sh out) 0 0 sh g 2 [(0, .ref 77), (1, .int y1)] [] := by
  intro n
  induction n with
  | zero => intro g y1 h; cases h
  | succ n ih =>
    intro g y1 h
    rw [f_X11_passIt_2] at h
    refine gb_iload_n d_X11_passIt_2 rfl ?_
    refine gb_aload_n d_X11_passIt_3 rfl ?_
    refine gb_getr (r := 79) f_X11_13 (hS 77 _ rfl) rfl d_X11_passIt_4 ?_
    refine gb_iconst 0 d_X11_passIt_7 rfl ?_
    refine gb_iald_ 0 rfl (hS 79 _ rfl) (by unfold vp_in; decide) d_X11_passIt_8 ?_
    refine gb_icmp_ge 49 d_X11_passIt_9 (by decide) (fun hc => ?_) (fun hc => ?_)
    · have h := gb_it hc h
      refine gb_aload_n d_X11_passIt_49 rfl ?_
      refine gb_getr (r := 79) f_X11_13 (hS 77 _ rfl) rfl d_X11_passIt_50 ?_
      refine gb_iconst 5 d_X11_passIt_53 rfl ?_
      refine gb_dup2 d_X11_passIt_54 rfl rfl ?_
      refine gb_iald_ 5 rfl (hS 79 _ rfl) (by unfold vp_in; decide) d_X11_passIt_55 ?_
      refine gb_iconst 1 d_X11_passIt_56 rfl ?_
      refine gb_iadd d_X11_passIt_57 ?_
      refine gb_iast_ 5 rfl (hS 79 _ rfl) (by unfold vp_in; decide) d_X11_passIt_58 ?_
      have h := gb_let_e h
      generalize gb_pi g 79 5 ((g.1 79 5) + 1) = g1 at h ⊢
      cases h
      exact gb_vret d_X11_passIt_59 rfl ⟨rfl, rfl, rfl⟩
    · have h := gb_if hc h
      refine gb_aload_n d_X11_passIt_12 rfl ?_
      refine gb_getr (r := 79) f_X11_13 (hS 77 _ rfl) rfl d_X11_passIt_13 ?_
      refine gb_bipush 8 d_X11_passIt_16 rfl ?_
      refine gb_iload_n d_X11_passIt_18 rfl ?_
      refine gb_iadd d_X11_passIt_19 ?_
      refine gb_aload_n d_X11_passIt_20 rfl ?_
      refine gb_getr (r := 79) f_X11_13 (hS 77 _ rfl) rfl d_X11_passIt_21 ?_
      refine gb_bipush 8 d_X11_passIt_24 rfl ?_
      refine gb_iload_n d_X11_passIt_26 rfl ?_
      refine gb_iadd d_X11_passIt_27 ?_
      obtain ⟨hi2, h⟩ := gb_ck_e h
      refine gb_iald_ ((8 + y1).toNatClampNeg) rfl (hS 79 _ rfl) hi2 d_X11_passIt_28 ?_
      refine gb_aload_n d_X11_passIt_29 rfl ?_
      refine gb_iload_n d_X11_passIt_30 rfl ?_
      obtain ⟨r3, e4, h⟩ := gb_bd_e h
      refine gb_cVi (As := [.int y1]) (rest := [.int (g.1 79 ((8 + y1).toNatClampNeg)), .int (8 + y1), .ref 79]) m_X11_189 (t_X11_movesOf (Γ := Γ) hS e4) (hS 77 _ rfl) rfl (Nat.le_of_ble_eq_true rfl) rfl rfl (Nat.le_of_ble_eq_true rfl) d_X11_passIt_31 ?_
      refine gb_iadd d_X11_passIt_34 ?_
      refine gb_i2l d_X11_passIt_35 ?_
      refine gb_iconst 1 d_X11_passIt_36 rfl ?_
      refine gb_bipush 12 d_X11_passIt_37 rfl ?_
      obtain ⟨r5, e6, h⟩ := gb_bd_e h
      refine gb_cSi (As := [.long (((g.1 79 ((8 + y1).toNatClampNeg)) + r3.2).toInt64), .int 1, .int 12]) (rest := [.int (8 + y1), .ref 79]) m_X11_403 (t_X11_within (Γ := Γ) hS e6) (Nat.le_of_ble_eq_true rfl) rfl rfl (Nat.le_of_ble_eq_true rfl) d_X11_passIt_39 ?_
      obtain ⟨hi7, h⟩ := gb_ck_e h
      refine gb_iast_ ((8 + y1).toNatClampNeg) rfl (hS 79 _ rfl) hi7 d_X11_passIt_42 ?_
      have h := gb_let_e h
      generalize gb_pi r5.1 79 ((8 + y1).toNatClampNeg) r5.2 = g8 at h ⊢
      refine gb_iinc (y1 + 1) [(1, .int (y1 + 1)), (0, .ref 77)] d_X11_passIt_43 (Nat.le_of_ble_eq_true rfl) rfl rfl rfl ?_
      refine gb_goto 2 d_X11_passIt_46 (by decide) ?_
      refine gb_pick (lv' := [(0, .ref 77), (1, .int (y1 + 1))]) [1, 0] rfl ?_
      exact ih _ (y1 + 1) h
set_option maxRecDepth 100000 in
set_option maxHeartbeats 4000000 in
theorem t_X11_passIt {Γ : gb_X} {sh : List gb_Sh} {out : gb_G} (hS : gb_S sh) {g : gb_G} (h : f_X11_passIt sh g = some out) : gb_C Γ M_X11_passIt 6 0 0 sh g [.ref 77] (gb_Rv sh out) := by
  refine gb_C.of rfl (Nat.le_of_ble_eq_true rfl) ?_
  refine gb_pick (lv' := [(0, .ref 77)]) [0] rfl ?_
  unfold f_X11_passIt at h
  refine gb_iconst 0 d_X11_passIt_0 rfl ?_
  refine gb_istore_n [(1, .int 0), (0, .ref 77)] d_X11_passIt_1 (Nat.le_of_ble_eq_true rfl) rfl ?_
  refine gb_pick (lv' := [(0, .ref 77), (1, .int 0)]) [1, 0] rfl ?_
  exact t_X11_passIt_2 hS  gb_N _ 0 h
-- X11_passNow
noncomputable def f_X11_passNow (sh : List gb_Sh) (g : gb_G) : Option (gb_G × Int32) := if (g.1 79 5) = 999 then (some (g, (-3))) else (gb_bd (f_X11_remember sh g 3) (fun r1 => gb_bd (f_X11_passIt sh r1) (fun r3 => some (r3, (r3.1 79 5)))))
set_option maxRecDepth 100000 in
set_option maxHeartbeats 4000000 in
theorem t_X11_passNow {Γ : gb_X} {sh : List gb_Sh} {out : gb_G × Int32} (hS : gb_S sh) {g : gb_G} (h : f_X11_passNow sh g = some out) : gb_C Γ M_X11_passNow 7 0 0 sh g [.ref 77] (gb_Ri sh out) := by
  refine gb_C.of rfl (Nat.le_of_ble_eq_true rfl) ?_
  refine gb_pick (lv' := [(0, .ref 77)]) [0] rfl ?_
  unfold f_X11_passNow at h
  refine gb_aload_n d_X11_passNow_0 rfl ?_
  refine gb_getr (r := 79) f_X11_13 (hS 77 _ rfl) rfl d_X11_passNow_1 ?_
  refine gb_iconst 5 d_X11_passNow_4 rfl ?_
  refine gb_iald_ 5 rfl (hS 79 _ rfl) (by unfold vp_in; decide) d_X11_passNow_5 ?_
  refine gb_sipush 999 d_X11_passNow_6 rfl ?_
  refine gb_icmp_ne 15 d_X11_passNow_9 (by decide) (fun hc => ?_) (fun hc => ?_)
  · have h := gb_if hc h
    refine gb_aload_n d_X11_passNow_15 rfl ?_
    refine gb_iconst 3 d_X11_passNow_16 rfl ?_
    obtain ⟨r1, e2, h⟩ := gb_bd_e h
    refine gb_cVv (As := [.int 3]) (rest := []) m_X11_407 (t_X11_remember (Γ := Γ) hS e2) (hS 77 _ rfl) rfl (Nat.le_of_ble_eq_true rfl) rfl rfl (Nat.le_of_ble_eq_true rfl) d_X11_passNow_17 ?_
    refine gb_aload_n d_X11_passNow_20 rfl ?_
    obtain ⟨r3, e4, h⟩ := gb_bd_e h
    refine gb_cVv (As := []) (rest := []) m_X11_422 (t_X11_passIt (Γ := Γ) hS e4) (hS 77 _ rfl) rfl (Nat.le_of_ble_eq_true rfl) rfl rfl (Nat.le_of_ble_eq_true rfl) d_X11_passNow_21 ?_
    refine gb_aload_n d_X11_passNow_24 rfl ?_
    refine gb_getr (r := 79) f_X11_13 (hS 77 _ rfl) rfl d_X11_passNow_25 ?_
    refine gb_iconst 5 d_X11_passNow_28 rfl ?_
    refine gb_iald_ 5 rfl (hS 79 _ rfl) (by unfold vp_in; decide) d_X11_passNow_29 ?_
    cases h
    exact gb_iret d_X11_passNow_30 rfl ⟨rfl, rfl, rfl⟩
  · have h := gb_it hc h
    refine gb_bipush (-3) d_X11_passNow_12 rfl ?_
    cases h
    exact gb_iret d_X11_passNow_14 rfl ⟨rfl, rfl, rfl⟩
-- X11_pass
noncomputable def f_X11_pass (sh : List gb_Sh) (g : gb_G) : Option (gb_G × Int32) := gb_let (gb_pi g 77 0 0) (fun g1 => gb_bd (f_X11_passNow sh g1) (fun r2 => gb_bd (f_X11_tell sh r2.1 r2.2) (fun r4 => some (r4.1, r4.2))))
set_option maxRecDepth 100000 in
set_option maxHeartbeats 4000000 in
theorem t_X11_pass {Γ : gb_X} {sh : List gb_Sh} {out : gb_G × Int32} (hS : gb_S sh) {g : gb_G} (h : f_X11_pass sh g = some out) : gb_C Γ M_X11_pass 8 0 0 sh g [.ref 77] (gb_Ri sh out) := by
  refine gb_C.of rfl (Nat.le_of_ble_eq_true rfl) ?_
  refine gb_pick (lv' := [(0, .ref 77)]) [0] rfl ?_
  unfold f_X11_pass at h
  refine gb_aload_n d_X11_pass_0 rfl ?_
  refine gb_iconst 0 d_X11_pass_1 rfl ?_
  refine gb_puti f_X11_145 (fun h => nomatch h) (hS 77 _ rfl) rfl rfl rfl d_X11_pass_2 ?_
  have h := gb_let_e h
  generalize gb_pi g 77 0 0 = g1 at h ⊢
  refine gb_aload_n d_X11_pass_5 rfl ?_
  refine gb_aload_n d_X11_pass_6 rfl ?_
  obtain ⟨r2, e3, h⟩ := gb_bd_e h
  refine gb_cVi (As := []) (rest := [.ref 77]) m_X11_425 (t_X11_passNow (Γ := Γ) hS e3) (hS 77 _ rfl) rfl (Nat.le_of_ble_eq_true rfl) rfl rfl (Nat.le_of_ble_eq_true rfl) d_X11_pass_7 ?_
  obtain ⟨r4, e5, h⟩ := gb_bd_e h
  refine gb_cVi (As := [.int r2.2]) (rest := []) m_X11_154 (t_X11_tell (Γ := Γ) hS e5) (hS 77 _ rfl) rfl (Nat.le_of_ble_eq_true rfl) rfl rfl (Nat.le_of_ble_eq_true rfl) d_X11_pass_10 ?_
  cases h
  exact gb_iret d_X11_pass_13 rfl ⟨rfl, rfl, rfl⟩
-- X11_common
noncomputable def f_X11_common_28 (sh : List gb_Sh) : Nat → gb_G → Int64 → Int64 → Option (gb_G × Int64)
  | 0, _, _, _ => none
  | n + 1, g, y4, y6 => if (lg_cmp y6 0) = 0 then (some (g, y4)) else (gb_nzl y6 (f_X11_common_28 sh n g y6 (gb_reml y4 y6)))
noncomputable def f_X11_common_26 (sh : List gb_Sh) (g : gb_G) (y4 : Int64) (z0 : Int64) : Option (gb_G × Int64) := f_X11_common_28 sh gb_N g y4 z0
noncomputable def f_X11_common_12 (sh : List gb_Sh) (g : gb_G) (y2 : Int64) (z0 : Int64) : Option (gb_G × Int64) := if 0 ≤ (lg_cmp y2 0) then (f_X11_common_26 sh g z0 y2) else (f_X11_common_26 sh g z0 (-y2))
noncomputable def f_X11_common (sh : List gb_Sh) (g : gb_G) (x1 : Int64) (x2 : Int64) : Option (gb_G × Int64) := if 0 ≤ (lg_cmp x1 0) then (f_X11_common_12 sh g x2 x1) else (f_X11_common_12 sh g x2 (-x1))
set_option maxRecDepth 100000 in
set_option maxHeartbeats 4000000 in
theorem t_X11_common_28 {Γ : gb_X} {sh : List gb_Sh} {out : gb_G × Int64} (hS : gb_S sh) : ∀ (n : Nat) (g : gb_G) (y4 : Int64) (y6 : Int64), f_X11_common_28 sh n g y4 y6 = some out → gb_J Γ M_X11_common 0 (gb_Rl sh out) 0 0 sh g 28 [(4, .long y4), (6, .long y6)] [] := by
  intro n
  induction n with
  | zero => intro g y4 y6 h; cases h
  | succ n ih =>
    intro g y4 y6 h
    rw [f_X11_common_28] at h
    refine gb_lload d_X11_common_28 rfl ?_
    refine gb_lconst 0 d_X11_common_30 rfl ?_
    refine gb_lcmp d_X11_common_31 ?_
    refine gb_if_eq 53 d_X11_common_32 (by decide) (fun hc => ?_) (fun hc => ?_)
    · have h := gb_it hc h
      refine gb_lload d_X11_common_53 rfl ?_
      cases h
      exact gb_lret d_X11_common_55 rfl ⟨rfl, rfl, rfl⟩
    · have h := gb_if hc h
      refine gb_lload d_X11_common_35 rfl ?_
      refine gb_lload d_X11_common_37 rfl ?_
      obtain ⟨hn1, h⟩ := gb_nzl_e h
      refine gb_reml_ d_X11_common_39 hn1 ?_
      refine gb_lstore [(8, .long (gb_reml y4 y6)), (4, .long y4), (6, .long y6)] d_X11_common_40 (Nat.le_of_ble_eq_true rfl) rfl ?_
      refine gb_lload d_X11_common_42 rfl ?_
      refine gb_lstore [(4, .long y6), (8, .long (gb_reml y4 y6)), (6, .long y6)] d_X11_common_44 (Nat.le_of_ble_eq_true rfl) rfl ?_
      refine gb_lload d_X11_common_46 rfl ?_
      refine gb_lstore [(6, .long (gb_reml y4 y6)), (4, .long y6), (8, .long (gb_reml y4 y6))] d_X11_common_48 (Nat.le_of_ble_eq_true rfl) rfl ?_
      refine gb_goto 28 d_X11_common_50 (by decide) ?_
      refine gb_pick (lv' := [(4, .long y6), (6, .long (gb_reml y4 y6))]) [1, 0] rfl ?_
      exact ih _ y6 (gb_reml y4 y6) h
set_option maxRecDepth 100000 in
set_option maxHeartbeats 4000000 in
theorem t_X11_common_26 {Γ : gb_X} {sh : List gb_Sh} {out : gb_G × Int64} (hS : gb_S sh) : ∀ (g : gb_G) (y4 : Int64) (z0 : Int64), f_X11_common_26 sh g y4 z0 = some out → gb_J Γ M_X11_common 0 (gb_Rl sh out) 0 0 sh g 26 [(4, .long y4)] [.long z0] := by
  intro g y4 z0 h
  unfold f_X11_common_26 at h
  refine gb_lstore [(6, .long z0), (4, .long y4)] d_X11_common_26 (Nat.le_of_ble_eq_true rfl) rfl ?_
  refine gb_pick (lv' := [(4, .long y4), (6, .long z0)]) [1, 0] rfl ?_
  exact t_X11_common_28 hS  gb_N _ y4 z0 h
set_option maxRecDepth 100000 in
set_option maxHeartbeats 4000000 in
theorem t_X11_common_12 {Γ : gb_X} {sh : List gb_Sh} {out : gb_G × Int64} (hS : gb_S sh) : ∀ (g : gb_G) (y2 : Int64) (z0 : Int64), f_X11_common_12 sh g y2 z0 = some out → gb_J Γ M_X11_common 0 (gb_Rl sh out) 0 0 sh g 12 [(2, .long y2)] [.long z0] := by
  intro g y2 z0 h
  unfold f_X11_common_12 at h
  refine gb_lstore [(4, .long z0), (2, .long y2)] d_X11_common_12 (Nat.le_of_ble_eq_true rfl) rfl ?_
  refine gb_lload_n d_X11_common_14 rfl ?_
  refine gb_lconst 0 d_X11_common_15 rfl ?_
  refine gb_lcmp d_X11_common_16 ?_
  refine gb_if_ge 25 d_X11_common_17 (by decide) (fun hc => ?_) (fun hc => ?_)
  · have h := gb_it hc h
    refine gb_lload_n d_X11_common_25 rfl ?_
    refine gb_pick (lv' := [(4, .long z0)]) [0] rfl ?_
    exact t_X11_common_26 hS  _ z0 y2 h
  · have h := gb_if hc h
    refine gb_lload_n d_X11_common_20 rfl ?_
    refine gb_lneg d_X11_common_21 ?_
    refine gb_goto 26 d_X11_common_22 (by decide) ?_
    refine gb_pick (lv' := [(4, .long z0)]) [0] rfl ?_
    exact t_X11_common_26 hS  _ z0 (-y2) h
set_option maxRecDepth 100000 in
set_option maxHeartbeats 4000000 in
theorem t_X11_common {Γ : gb_X} {sh : List gb_Sh} {x1 : Int64} {x2 : Int64} {out : gb_G × Int64} (hS : gb_S sh) {g : gb_G} (h : f_X11_common sh g x1 x2 = some out) : gb_C Γ M_X11_common 0 0 0 sh g [.long x1, .long x2] (gb_Rl sh out) := by
  refine gb_C.of rfl (Nat.le_of_ble_eq_true rfl) ?_
  refine gb_pick (lv' := [(0, .long x1), (2, .long x2)]) [0, 1] rfl ?_
  unfold f_X11_common at h
  refine gb_lload_n d_X11_common_0 rfl ?_
  refine gb_lconst 0 d_X11_common_1 rfl ?_
  refine gb_lcmp d_X11_common_2 ?_
  refine gb_if_ge 11 d_X11_common_3 (by decide) (fun hc => ?_) (fun hc => ?_)
  · have h := gb_it hc h
    refine gb_lload_n d_X11_common_11 rfl ?_
    refine gb_pick (lv' := [(2, .long x2)]) [1] rfl ?_
    exact t_X11_common_12 hS  _ x2 x1 h
  · have h := gb_if hc h
    refine gb_lload_n d_X11_common_6 rfl ?_
    refine gb_lneg d_X11_common_7 ?_
    refine gb_goto 12 d_X11_common_8 (by decide) ?_
    refine gb_pick (lv' := [(2, .long x2)]) [1] rfl ?_
    exact t_X11_common_12 hS  _ x2 (-x1) h
-- X11_lowest
noncomputable def f_X11_lowest_21 (sh : List gb_Sh) (g : gb_G) (y1 : Int64) (y3 : Int64) (z0 : Int64) : Option (gb_G) := gb_nzl z0 (gb_let (gb_pj g 77 41 (y1 / z0)) (fun g4 => gb_nzl z0 (gb_let (gb_pj g4 77 42 (y3 / z0)) (fun g6 => some g6))))
noncomputable def f_X11_lowest (sh : List gb_Sh) (g : gb_G) (x1 : Int64) (x2 : Int64) : Option (gb_G) := gb_bd (f_X11_common sh g x1 x2) (fun r1 => if 0 ≤ (lg_cmp x2 0) then (f_X11_lowest_21 sh r1.1 x1 x2 r1.2) else (f_X11_lowest_21 sh r1.1 x1 x2 (-r1.2)))
set_option maxRecDepth 100000 in
set_option maxHeartbeats 4000000 in
theorem t_X11_lowest_21 {Γ : gb_X} {sh : List gb_Sh} {out : gb_G} (hS : gb_S sh) : ∀ (g : gb_G) (y1 : Int64) (y3 : Int64) (z0 : Int64), f_X11_lowest_21 sh g y1 y3 z0 = some out → gb_J Γ M_X11_lowest 1 (gb_Rv sh out) 0 0 sh g 21 [(0, .ref 77), (1, .long y1), (3, .long y3)] [.long z0] := by
  intro g y1 y3 z0 h
  unfold f_X11_lowest_21 at h
  refine gb_lstore [(5, .long z0), (0, .ref 77), (1, .long y1), (3, .long y3)] d_X11_lowest_21 (Nat.le_of_ble_eq_true rfl) rfl ?_
  refine gb_aload_n d_X11_lowest_23 rfl ?_
  refine gb_lload_n d_X11_lowest_24 rfl ?_
  refine gb_lload d_X11_lowest_25 rfl ?_
  obtain ⟨hn3, h⟩ := gb_nzl_e h
  refine gb_ldiv d_X11_lowest_27 hn3 ?_
  refine gb_putl f_X11_432 (fun h => nomatch h) (hS 77 _ rfl) rfl rfl rfl d_X11_lowest_28 ?_
  have h := gb_let_e h
  generalize gb_pj g 77 41 (y1 / z0) = g4 at h ⊢
  refine gb_aload_n d_X11_lowest_31 rfl ?_
  refine gb_lload_n d_X11_lowest_32 rfl ?_
  refine gb_lload d_X11_lowest_33 rfl ?_
  obtain ⟨hn5, h⟩ := gb_nzl_e h
  refine gb_ldiv d_X11_lowest_35 hn5 ?_
  refine gb_putl f_X11_435 (fun h => nomatch h) (hS 77 _ rfl) rfl rfl rfl d_X11_lowest_36 ?_
  have h := gb_let_e h
  generalize gb_pj g4 77 42 (y3 / z0) = g6 at h ⊢
  cases h
  exact gb_vret d_X11_lowest_39 rfl ⟨rfl, rfl, rfl⟩
set_option maxRecDepth 100000 in
set_option maxHeartbeats 4000000 in
theorem t_X11_lowest {Γ : gb_X} {sh : List gb_Sh} {x1 : Int64} {x2 : Int64} {out : gb_G} (hS : gb_S sh) {g : gb_G} (h : f_X11_lowest sh g x1 x2 = some out) : gb_C Γ M_X11_lowest 1 0 0 sh g [.ref 77, .long x1, .long x2] (gb_Rv sh out) := by
  refine gb_C.of rfl (Nat.le_of_ble_eq_true rfl) ?_
  refine gb_pick (lv' := [(0, .ref 77), (1, .long x1), (3, .long x2)]) [0, 1, 2] rfl ?_
  unfold f_X11_lowest at h
  refine gb_lload_n d_X11_lowest_0 rfl ?_
  refine gb_lload_n d_X11_lowest_1 rfl ?_
  obtain ⟨r1, e2, h⟩ := gb_bd_e h
  refine gb_cSl (As := [.long x1, .long x2]) (rest := []) m_X11_428 (t_X11_common (Γ := Γ) hS e2) (Nat.le_of_ble_eq_true rfl) rfl rfl (Nat.le_of_ble_eq_true rfl) d_X11_lowest_2 ?_
  refine gb_lstore [(5, .long r1.2), (0, .ref 77), (1, .long x1), (3, .long x2)] d_X11_lowest_5 (Nat.le_of_ble_eq_true rfl) rfl ?_
  refine gb_lload_n d_X11_lowest_7 rfl ?_
  refine gb_lconst 0 d_X11_lowest_8 rfl ?_
  refine gb_lcmp d_X11_lowest_9 ?_
  refine gb_if_ge 19 d_X11_lowest_10 (by decide) (fun hc => ?_) (fun hc => ?_)
  · have h := gb_it hc h
    refine gb_lload d_X11_lowest_19 rfl ?_
    refine gb_pick (lv' := [(0, .ref 77), (1, .long x1), (3, .long x2)]) [1, 2, 3] rfl ?_
    exact t_X11_lowest_21 hS  _ x1 x2 r1.2 h
  · have h := gb_if hc h
    refine gb_lload d_X11_lowest_13 rfl ?_
    refine gb_lneg d_X11_lowest_15 ?_
    refine gb_goto 21 d_X11_lowest_16 (by decide) ?_
    refine gb_pick (lv' := [(0, .ref 77), (1, .long x1), (3, .long x2)]) [1, 2, 3] rfl ?_
    exact t_X11_lowest_21 hS  _ x1 x2 (-r1.2) h
-- X11_figureBy
noncomputable def f_X11_figureBy_244 (sh : List gb_Sh) (K9 : gb_G → Int32 → Int32 → Int32 → Int64 → Int64 → Int32 → Option (gb_G)) (g : gb_G) (y1 : Int32) (y2 : Int32) (y3 : Int32) (y4 : Int64) (y8 : Int32) (z0 : Int64) : Option (gb_G) := K9 g y1 y2 y3 y4 z0 (y8 + 1)
noncomputable def f_X11_figureBy_230 (sh : List gb_Sh) (K9 : gb_G → Int32 → Int32 → Int32 → Int64 → Int64 → Int32 → Option (gb_G)) (g : gb_G) (y1 : Int32) (y2 : Int32) (y3 : Int32) (y6 : Int64) (y8 : Int32) (y17 : Int64) (y19 : Int32) (z0 : Int64) : Option (gb_G) := if y19 = 0 then (f_X11_figureBy_244 sh K9 g y1 y2 y3 z0 y8 y6) else (f_X11_figureBy_244 sh K9 g y1 y2 y3 z0 y8 y17)
noncomputable def f_X11_figureBy_216 (sh : List gb_Sh) (K9 : gb_G → Int32 → Int32 → Int32 → Int64 → Int64 → Int32 → Option (gb_G)) (g : gb_G) (y1 : Int32) (y2 : Int32) (y3 : Int32) (y4 : Int64) (y6 : Int64) (y8 : Int32) (y15 : Int64) (y17 : Int64) (z0 : Int32) : Option (gb_G) := if z0 = 0 then (f_X11_figureBy_230 sh K9 g y1 y2 y3 y6 y8 y17 z0 y4) else (f_X11_figureBy_230 sh K9 g y1 y2 y3 y6 y8 y17 z0 y15)
noncomputable def f_X11_figureBy_156 (sh : List gb_Sh) (K9 : gb_G → Int32 → Int32 → Int32 → Int64 → Int64 → Int32 → Option (gb_G)) (g : gb_G) (y1 : Int32) (y2 : Int32) (y3 : Int32) (y4 : Int64) (y6 : Int64) (y8 : Int32) (y9 : Int64) (y15 : Int64) (y17 : Int64) : Option (gb_G) := if y1 ≤ 1 then (f_X11_figureBy_216 sh K9 g y1 y2 y3 y4 y6 y8 y15 y17 0) else (if (lg_cmp y9 0) ≤ 0 then (f_X11_figureBy_216 sh K9 g y1 y2 y3 y4 y6 y8 y15 y17 0) else (if (lg_cmp y6 0) = 0 then (f_X11_figureBy_216 sh K9 g y1 y2 y3 y4 y6 y8 y15 y17 1) else (if y1 = 2 then (if (lg_cmp (y15 * y6) (y4 * y17)) ≤ 0 then (f_X11_figureBy_216 sh K9 g y1 y2 y3 y4 y6 y8 y15 y17 0) else (f_X11_figureBy_216 sh K9 g y1 y2 y3 y4 y6 y8 y15 y17 1)) else (if 0 ≤ (lg_cmp (y15 * y6) (y4 * y17)) then (f_X11_figureBy_216 sh K9 g y1 y2 y3 y4 y6 y8 y15 y17 0) else (f_X11_figureBy_216 sh K9 g y1 y2 y3 y4 y6 y8 y15 y17 1)))))
noncomputable def f_X11_figureBy_123 (sh : List gb_Sh) (K9 : gb_G → Int32 → Int32 → Int32 → Int64 → Int64 → Int32 → Option (gb_G)) (g : gb_G) (y1 : Int32) (y2 : Int32) (y3 : Int32) (y4 : Int64) (y6 : Int64) (y8 : Int32) (y9 : Int64) (y15 : Int64) (y17 : Int64) : Option (gb_G) := if y1 = 1 then (gb_nzl y17 (f_X11_figureBy_156 sh K9 g y1 y2 y3 (y4 + ((y9 * y15) * (27720 / y17))) (y6 + (y9 * 27720)) y8 y9 y15 y17)) else (f_X11_figureBy_156 sh K9 g y1 y2 y3 y4 y6 y8 y9 y15 y17)
noncomputable def f_X11_figureBy_97 (sh : List gb_Sh) (K9 : gb_G → Int32 → Int32 → Int32 → Int64 → Int64 → Int32 → Option (gb_G)) (g : gb_G) (y1 : Int32) (y2 : Int32) (y3 : Int32) (y4 : Int64) (y6 : Int64) (y8 : Int32) (y9 : Int64) (y15 : Int64) (z0 : Int64) : Option (gb_G) := if y1 = 0 then (f_X11_figureBy_123 sh K9 g y1 y2 y3 (y4 + (y9 * y15)) (y6 + (y9 * z0)) y8 y9 y15 z0) else (f_X11_figureBy_123 sh K9 g y1 y2 y3 y4 y6 y8 y9 y15 z0)
noncomputable def f_X11_figureBy_84 (sh : List gb_Sh) (K9 : gb_G → Int32 → Int32 → Int32 → Int64 → Int64 → Int32 → Option (gb_G)) (g : gb_G) (y1 : Int32) (y2 : Int32) (y3 : Int32) (y4 : Int64) (y6 : Int64) (y8 : Int32) (y9 : Int64) (y11 : Int64) (y13 : Int64) (z0 : Int64) : Option (gb_G) := if y2 = 0 then (f_X11_figureBy_97 sh K9 g y1 y2 y3 y4 y6 y8 y9 z0 y11) else (f_X11_figureBy_97 sh K9 g y1 y2 y3 y4 y6 y8 y9 z0 y13)
noncomputable def f_X11_figureBy_37 (sh : List gb_Sh) (K9 : gb_G → Int32 → Int32 → Int32 → Int64 → Int64 → Int32 → Option (gb_G)) (g : gb_G) (y1 : Int32) (y2 : Int32) (y3 : Int32) (y4 : Int64) (y6 : Int64) (y8 : Int32) (z0 : Int64) : Option (gb_G) := gb_bd (f_X11_pricedBy sh g y8) (fun r7 => gb_ck (32 + r7.2) 5520 (gb_bd (f_X11_pricedBy sh r7.1 y8) (fun r10 => gb_ck (8 + r10.2) 5520 (if y2 = 0 then (f_X11_figureBy_84 sh K9 r10.1 y1 y2 y3 y4 y6 y8 z0 ((r7.1.1 79 ((32 + r7.2).toNatClampNeg)).toInt64) ((r10.1.1 79 ((8 + r10.2).toNatClampNeg)).toInt64) ((r10.1.1 79 ((8 + r10.2).toNatClampNeg)).toInt64)) else (f_X11_figureBy_84 sh K9 r10.1 y1 y2 y3 y4 y6 y8 z0 ((r7.1.1 79 ((32 + r7.2).toNatClampNeg)).toInt64) ((r10.1.1 79 ((8 + r10.2).toNatClampNeg)).toInt64) ((r7.1.1 79 ((32 + r7.2).toNatClampNeg)).toInt64))))))
noncomputable def f_X11_figureBy_9 (sh : List gb_Sh) : Nat → gb_G → Int32 → Int32 → Int32 → Int64 → Int64 → Int32 → Option (gb_G)
  | 0, _, _, _, _, _, _, _ => none
  | n + 1, g, y1, y2, y3, y4, y6, y8 => if (g.1 79 0) ≤ y8 then (gb_let (gb_pj g 77 41 0) (fun g1 => gb_let (gb_pj g1 77 42 1) (fun g2 => if (lg_cmp y6 0) ≤ 0 then (some g2) else (gb_bd (f_X11_lowest sh g2 y4 y6) (fun r3 => some r3))))) else (if y8 = y3 then (f_X11_figureBy_37 sh (fun w w0 w1 w2 w3 w4 w5 => f_X11_figureBy_9 sh n w w0 w1 w2 w3 w4 w5) g y1 y2 y3 y4 y6 y8 0) else (gb_bd (f_X11_countsOf sh g y8) (fun r5 => f_X11_figureBy_37 sh (fun w w0 w1 w2 w3 w4 w5 => f_X11_figureBy_9 sh n w w0 w1 w2 w3 w4 w5) r5.1 y1 y2 y3 y4 y6 y8 r5.2.toInt64)))
noncomputable def f_X11_figureBy (sh : List gb_Sh) (g : gb_G) (x1 : Int32) (x2 : Int32) (x3 : Int32) : Option (gb_G) := f_X11_figureBy_9 sh gb_N g x1 x2 x3 0 0 0
set_option maxRecDepth 100000 in
set_option maxHeartbeats 4000000 in
theorem t_X11_figureBy_244 {Γ : gb_X} {sh : List gb_Sh} {out : gb_G} (hS : gb_S sh) {K9 : gb_G → Int32 → Int32 → Int32 → Int64 → Int64 → Int32 → Option (gb_G)} (hK9 : ∀ (g : gb_G) (y1 : Int32) (y2 : Int32) (y3 : Int32) (y4 : Int64) (y6 : Int64) (y8 : Int32), K9 g y1 y2 y3 y4 y6 y8 = some out → gb_J Γ M_X11_figureBy 6 (gb_Rv sh out) 0 0 sh g 9 [(0, .ref 77), (1, .int y1), (2, .int y2), (3, .int y3), (4, .long y4), (6, .long y6), (8, .int y8)] []) : ∀ (g : gb_G) (y1 : Int32) (y2 : Int32) (y3 : Int32) (y4 : Int64) (y8 : Int32) (z0 : Int64), f_X11_figureBy_244 sh K9 g y1 y2 y3 y4 y8 z0 = some out → gb_J Γ M_X11_figureBy 6 (gb_Rv sh out) 0 0 sh g 244 [(0, .ref 77), (1, .int y1), (2, .int y2), (3, .int y3), (4, .long y4), (8, .int y8)] [.long z0] := by
  intro g y1 y2 y3 y4 y8 z0 h
  unfold f_X11_figureBy_244 at h
  refine gb_lstore [(6, .long z0), (0, .ref 77), (1, .int y1), (2, .int y2), (3, .int y3), (4, .long y4), (8, .int y8)] d_X11_figureBy_244 (Nat.le_of_ble_eq_true rfl) rfl ?_
  refine gb_iinc (y8 + 1) [(8, .int (y8 + 1)), (6, .long z0), (0, .ref 77), (1, .int y1), (2, .int y2), (3, .int y3), (4, .long y4)] d_X11_figureBy_246 (Nat.le_of_ble_eq_true rfl) rfl rfl rfl ?_
  refine gb_goto 9 d_X11_figureBy_249 (by decide) ?_
  refine gb_pick (lv' := [(0, .ref 77), (1, .int y1), (2, .int y2), (3, .int y3), (4, .long y4), (6, .long z0), (8, .int (y8 + 1))]) [2, 3, 4, 5, 6, 1, 0] rfl ?_
  exact hK9 _ y1 y2 y3 y4 z0 (y8 + 1) h
set_option maxRecDepth 100000 in
set_option maxHeartbeats 4000000 in
theorem t_X11_figureBy_230 {Γ : gb_X} {sh : List gb_Sh} {out : gb_G} (hS : gb_S sh) {K9 : gb_G → Int32 → Int32 → Int32 → Int64 → Int64 → Int32 → Option (gb_G)} (hK9 : ∀ (g : gb_G) (y1 : Int32) (y2 : Int32) (y3 : Int32) (y4 : Int64) (y6 : Int64) (y8 : Int32), K9 g y1 y2 y3 y4 y6 y8 = some out → gb_J Γ M_X11_figureBy 6 (gb_Rv sh out) 0 0 sh g 9 [(0, .ref 77), (1, .int y1), (2, .int y2), (3, .int y3), (4, .long y4), (6, .long y6), (8, .int y8)] []) : ∀ (g : gb_G) (y1 : Int32) (y2 : Int32) (y3 : Int32) (y6 : Int64) (y8 : Int32) (y17 : Int64) (y19 : Int32) (z0 : Int64), f_X11_figureBy_230 sh K9 g y1 y2 y3 y6 y8 y17 y19 z0 = some out → gb_J Γ M_X11_figureBy 6 (gb_Rv sh out) 0 0 sh g 230 [(0, .ref 77), (1, .int y1), (2, .int y2), (3, .int y3), (6, .long y6), (8, .int y8), (17, .long y17), (19, .int y19)] [.long z0] := by
  intro g y1 y2 y3 y6 y8 y17 y19 z0 h
  unfold f_X11_figureBy_230 at h
  refine gb_lstore [(4, .long z0), (0, .ref 77), (1, .int y1), (2, .int y2), (3, .int y3), (6, .long y6), (8, .int y8), (17, .long y17), (19, .int y19)] d_X11_figureBy_230 (Nat.le_of_ble_eq_true rfl) rfl ?_
  refine gb_iload d_X11_figureBy_232 rfl ?_
  refine gb_if_eq 242 d_X11_figureBy_234 (by decide) (fun hc => ?_) (fun hc => ?_)
  · have h := gb_it hc h
    refine gb_lload d_X11_figureBy_242 rfl ?_
    refine gb_pick (lv' := [(0, .ref 77), (1, .int y1), (2, .int y2), (3, .int y3), (4, .long z0), (8, .int y8)]) [1, 2, 3, 4, 0, 6] rfl ?_
    exact t_X11_figureBy_244 hS hK9 _ y1 y2 y3 z0 y8 y6 h
  · have h := gb_if hc h
    refine gb_lload d_X11_figureBy_237 rfl ?_
    refine gb_goto 244 d_X11_figureBy_239 (by decide) ?_
    refine gb_pick (lv' := [(0, .ref 77), (1, .int y1), (2, .int y2), (3, .int y3), (4, .long z0), (8, .int y8)]) [1, 2, 3, 4, 0, 6] rfl ?_
    exact t_X11_figureBy_244 hS hK9 _ y1 y2 y3 z0 y8 y17 h
set_option maxRecDepth 100000 in
set_option maxHeartbeats 4000000 in
theorem t_X11_figureBy_216 {Γ : gb_X} {sh : List gb_Sh} {out : gb_G} (hS : gb_S sh) {K9 : gb_G → Int32 → Int32 → Int32 → Int64 → Int64 → Int32 → Option (gb_G)} (hK9 : ∀ (g : gb_G) (y1 : Int32) (y2 : Int32) (y3 : Int32) (y4 : Int64) (y6 : Int64) (y8 : Int32), K9 g y1 y2 y3 y4 y6 y8 = some out → gb_J Γ M_X11_figureBy 6 (gb_Rv sh out) 0 0 sh g 9 [(0, .ref 77), (1, .int y1), (2, .int y2), (3, .int y3), (4, .long y4), (6, .long y6), (8, .int y8)] []) : ∀ (g : gb_G) (y1 : Int32) (y2 : Int32) (y3 : Int32) (y4 : Int64) (y6 : Int64) (y8 : Int32) (y15 : Int64) (y17 : Int64) (z0 : Int32), f_X11_figureBy_216 sh K9 g y1 y2 y3 y4 y6 y8 y15 y17 z0 = some out → gb_J Γ M_X11_figureBy 6 (gb_Rv sh out) 0 0 sh g 216 [(0, .ref 77), (1, .int y1), (2, .int y2), (3, .int y3), (4, .long y4), (6, .long y6), (8, .int y8), (15, .long y15), (17, .long y17)] [.int z0] := by
  intro g y1 y2 y3 y4 y6 y8 y15 y17 z0 h
  unfold f_X11_figureBy_216 at h
  refine gb_istore [(19, .int z0), (0, .ref 77), (1, .int y1), (2, .int y2), (3, .int y3), (4, .long y4), (6, .long y6), (8, .int y8), (15, .long y15), (17, .long y17)] d_X11_figureBy_216 (Nat.le_of_ble_eq_true rfl) rfl ?_
  refine gb_iload d_X11_figureBy_218 rfl ?_
  refine gb_if_eq 228 d_X11_figureBy_220 (by decide) (fun hc => ?_) (fun hc => ?_)
  · have h := gb_it hc h
    refine gb_lload d_X11_figureBy_228 rfl ?_
    refine gb_pick (lv' := [(0, .ref 77), (1, .int y1), (2, .int y2), (3, .int y3), (6, .long y6), (8, .int y8), (17, .long y17), (19, .int z0)]) [1, 2, 3, 4, 6, 7, 9, 0] rfl ?_
    exact t_X11_figureBy_230 hS hK9 _ y1 y2 y3 y6 y8 y17 z0 y4 h
  · have h := gb_if hc h
    refine gb_lload d_X11_figureBy_223 rfl ?_
    refine gb_goto 230 d_X11_figureBy_225 (by decide) ?_
    refine gb_pick (lv' := [(0, .ref 77), (1, .int y1), (2, .int y2), (3, .int y3), (6, .long y6), (8, .int y8), (17, .long y17), (19, .int z0)]) [1, 2, 3, 4, 6, 7, 9, 0] rfl ?_
    exact t_X11_figureBy_230 hS hK9 _ y1 y2 y3 y6 y8 y17 z0 y15 h
set_option maxRecDepth 100000 in
set_option maxHeartbeats 4000000 in
theorem t_X11_figureBy_156 {Γ : gb_X} {sh : List gb_Sh} {out : gb_G} (hS : gb_S sh) {K9 : gb_G → Int32 → Int32 → Int32 → Int64 → Int64 → Int32 → Option (gb_G)} (hK9 : ∀ (g : gb_G) (y1 : Int32) (y2 : Int32) (y3 : Int32) (y4 : Int64) (y6 : Int64) (y8 : Int32), K9 g y1 y2 y3 y4 y6 y8 = some out → gb_J Γ M_X11_figureBy 6 (gb_Rv sh out) 0 0 sh g 9 [(0, .ref 77), (1, .int y1), (2, .int y2), (3, .int y3), (4, .long y4), (6, .long y6), (8, .int y8)] []) : ∀ (g : gb_G) (y1 : Int32) (y2 : Int32) (y3 : Int32) (y4 : Int64) (y6 : Int64) (y8 : Int32) (y9 : Int64) (y15 : Int64) (y17 : Int64), f_X11_figureBy_156 sh K9 g y1 y2 y3 y4 y6 y8 y9 y15 y17 = some out → gb_J Γ M_X11_figureBy 6 (gb_Rv sh out) 0 0 sh g 156 [(0, .ref 77), (1, .int y1), (2, .int y2), (3, .int y3), (4, .long y4), (6, .long y6), (8, .int y8), (9, .long y9), (15, .long y15), (17, .long y17)] [] := by
  intro g y1 y2 y3 y4 y6 y8 y9 y15 y17 h
  unfold f_X11_figureBy_156 at h
  refine gb_iload_n d_X11_figureBy_156 rfl ?_
  refine gb_iconst 1 d_X11_figureBy_157 rfl ?_
  refine gb_icmp_le 215 d_X11_figureBy_158 (by decide) (fun hc => ?_) (fun hc => ?_)
  · have h := gb_it hc h
    refine gb_iconst 0 d_X11_figureBy_215 rfl ?_
    refine gb_pick (lv' := [(0, .ref 77), (1, .int y1), (2, .int y2), (3, .int y3), (4, .long y4), (6, .long y6), (8, .int y8), (15, .long y15), (17, .long y17)]) [0, 1, 2, 3, 4, 5, 6, 8, 9] rfl ?_
    exact t_X11_figureBy_216 hS hK9 _ y1 y2 y3 y4 y6 y8 y15 y17 0 h
  · have h := gb_if hc h
    refine gb_lload d_X11_figureBy_161 rfl ?_
    refine gb_lconst 0 d_X11_figureBy_163 rfl ?_
    refine gb_lcmp d_X11_figureBy_164 ?_
    refine gb_if_le 215 d_X11_figureBy_165 (by decide) (fun hc => ?_) (fun hc => ?_)
    · have h := gb_it hc h
      refine gb_iconst 0 d_X11_figureBy_215 rfl ?_
      refine gb_pick (lv' := [(0, .ref 77), (1, .int y1), (2, .int y2), (3, .int y3), (4, .long y4), (6, .long y6), (8, .int y8), (15, .long y15), (17, .long y17)]) [0, 1, 2, 3, 4, 5, 6, 8, 9] rfl ?_
      exact t_X11_figureBy_216 hS hK9 _ y1 y2 y3 y4 y6 y8 y15 y17 0 h
    · have h := gb_if hc h
      refine gb_lload d_X11_figureBy_168 rfl ?_
      refine gb_lconst 0 d_X11_figureBy_170 rfl ?_
      refine gb_lcmp d_X11_figureBy_171 ?_
      refine gb_if_eq 211 d_X11_figureBy_172 (by decide) (fun hc => ?_) (fun hc => ?_)
      · have h := gb_it hc h
        refine gb_iconst 1 d_X11_figureBy_211 rfl ?_
        refine gb_goto 216 d_X11_figureBy_212 (by decide) ?_
        refine gb_pick (lv' := [(0, .ref 77), (1, .int y1), (2, .int y2), (3, .int y3), (4, .long y4), (6, .long y6), (8, .int y8), (15, .long y15), (17, .long y17)]) [0, 1, 2, 3, 4, 5, 6, 8, 9] rfl ?_
        exact t_X11_figureBy_216 hS hK9 _ y1 y2 y3 y4 y6 y8 y15 y17 1 h
      · have h := gb_if hc h
        refine gb_iload_n d_X11_figureBy_175 rfl ?_
        refine gb_iconst 2 d_X11_figureBy_176 rfl ?_
        refine gb_icmp_ne 197 d_X11_figureBy_177 (by decide) (fun hc => ?_) (fun hc => ?_)
        · have h := gb_if hc h
          refine gb_lload d_X11_figureBy_197 rfl ?_
          refine gb_lload d_X11_figureBy_199 rfl ?_
          refine gb_lmul d_X11_figureBy_201 ?_
          refine gb_lload d_X11_figureBy_202 rfl ?_
          refine gb_lload d_X11_figureBy_204 rfl ?_
          refine gb_lmul d_X11_figureBy_206 ?_
          refine gb_lcmp d_X11_figureBy_207 ?_
          refine gb_if_ge 215 d_X11_figureBy_208 (by decide) (fun hc => ?_) (fun hc => ?_)
          · have h := gb_it hc h
            refine gb_iconst 0 d_X11_figureBy_215 rfl ?_
            refine gb_pick (lv' := [(0, .ref 77), (1, .int y1), (2, .int y2), (3, .int y3), (4, .long y4), (6, .long y6), (8, .int y8), (15, .long y15), (17, .long y17)]) [0, 1, 2, 3, 4, 5, 6, 8, 9] rfl ?_
            exact t_X11_figureBy_216 hS hK9 _ y1 y2 y3 y4 y6 y8 y15 y17 0 h
          · have h := gb_if hc h
            refine gb_iconst 1 d_X11_figureBy_211 rfl ?_
            refine gb_goto 216 d_X11_figureBy_212 (by decide) ?_
            refine gb_pick (lv' := [(0, .ref 77), (1, .int y1), (2, .int y2), (3, .int y3), (4, .long y4), (6, .long y6), (8, .int y8), (15, .long y15), (17, .long y17)]) [0, 1, 2, 3, 4, 5, 6, 8, 9] rfl ?_
            exact t_X11_figureBy_216 hS hK9 _ y1 y2 y3 y4 y6 y8 y15 y17 1 h
        · have h := gb_it hc h
          refine gb_lload d_X11_figureBy_180 rfl ?_
          refine gb_lload d_X11_figureBy_182 rfl ?_
          refine gb_lmul d_X11_figureBy_184 ?_
          refine gb_lload d_X11_figureBy_185 rfl ?_
          refine gb_lload d_X11_figureBy_187 rfl ?_
          refine gb_lmul d_X11_figureBy_189 ?_
          refine gb_lcmp d_X11_figureBy_190 ?_
          refine gb_if_le 215 d_X11_figureBy_191 (by decide) (fun hc => ?_) (fun hc => ?_)
          · have h := gb_it hc h
            refine gb_iconst 0 d_X11_figureBy_215 rfl ?_
            refine gb_pick (lv' := [(0, .ref 77), (1, .int y1), (2, .int y2), (3, .int y3), (4, .long y4), (6, .long y6), (8, .int y8), (15, .long y15), (17, .long y17)]) [0, 1, 2, 3, 4, 5, 6, 8, 9] rfl ?_
            exact t_X11_figureBy_216 hS hK9 _ y1 y2 y3 y4 y6 y8 y15 y17 0 h
          · have h := gb_if hc h
            refine gb_goto 211 d_X11_figureBy_194 (by decide) ?_
            refine gb_iconst 1 d_X11_figureBy_211 rfl ?_
            refine gb_goto 216 d_X11_figureBy_212 (by decide) ?_
            refine gb_pick (lv' := [(0, .ref 77), (1, .int y1), (2, .int y2), (3, .int y3), (4, .long y4), (6, .long y6), (8, .int y8), (15, .long y15), (17, .long y17)]) [0, 1, 2, 3, 4, 5, 6, 8, 9] rfl ?_
            exact t_X11_figureBy_216 hS hK9 _ y1 y2 y3 y4 y6 y8 y15 y17 1 h
set_option maxRecDepth 100000 in
set_option maxHeartbeats 4000000 in
theorem t_X11_figureBy_123 {Γ : gb_X} {sh : List gb_Sh} {out : gb_G} (hS : gb_S sh) {K9 : gb_G → Int32 → Int32 → Int32 → Int64 → Int64 → Int32 → Option (gb_G)} (hK9 : ∀ (g : gb_G) (y1 : Int32) (y2 : Int32) (y3 : Int32) (y4 : Int64) (y6 : Int64) (y8 : Int32), K9 g y1 y2 y3 y4 y6 y8 = some out → gb_J Γ M_X11_figureBy 6 (gb_Rv sh out) 0 0 sh g 9 [(0, .ref 77), (1, .int y1), (2, .int y2), (3, .int y3), (4, .long y4), (6, .long y6), (8, .int y8)] []) : ∀ (g : gb_G) (y1 : Int32) (y2 : Int32) (y3 : Int32) (y4 : Int64) (y6 : Int64) (y8 : Int32) (y9 : Int64) (y15 : Int64) (y17 : Int64), f_X11_figureBy_123 sh K9 g y1 y2 y3 y4 y6 y8 y9 y15 y17 = some out → gb_J Γ M_X11_figureBy 6 (gb_Rv sh out) 0 0 sh g 123 [(0, .ref 77), (1, .int y1), (2, .int y2), (3, .int y3), (4, .long y4), (6, .long y6), (8, .int y8), (9, .long y9), (15, .long y15), (17, .long y17)] [] := by
  intro g y1 y2 y3 y4 y6 y8 y9 y15 y17 h
  unfold f_X11_figureBy_123 at h
  refine gb_iload_n d_X11_figureBy_123 rfl ?_
  refine gb_iconst 1 d_X11_figureBy_124 rfl ?_
  refine gb_icmp_ne 156 d_X11_figureBy_125 (by decide) (fun hc => ?_) (fun hc => ?_)
  · have h := gb_if hc h
    exact t_X11_figureBy_156 hS hK9 _ y1 y2 y3 y4 y6 y8 y9 y15 y17 h
  · have h := gb_it hc h
    refine gb_lload d_X11_figureBy_128 rfl ?_
    refine gb_lload d_X11_figureBy_130 rfl ?_
    refine gb_lload d_X11_figureBy_132 rfl ?_
    refine gb_lmul d_X11_figureBy_134 ?_
    refine gb_ldc2 27720 k_X11_441 d_X11_figureBy_135 ?_
    refine gb_lload d_X11_figureBy_138 rfl ?_
    obtain ⟨hn13, h⟩ := gb_nzl_e h
    refine gb_ldiv d_X11_figureBy_140 hn13 ?_
    refine gb_lmul d_X11_figureBy_141 ?_
    refine gb_ladd d_X11_figureBy_142 ?_
    refine gb_lstore [(4, .long (y4 + ((y9 * y15) * (27720 / y17)))), (0, .ref 77), (1, .int y1), (2, .int y2), (3, .int y3), (6, .long y6), (8, .int y8), (9, .long y9), (15, .long y15), (17, .long y17)] d_X11_figureBy_143 (Nat.le_of_ble_eq_true rfl) rfl ?_
    refine gb_lload d_X11_figureBy_145 rfl ?_
    refine gb_lload d_X11_figureBy_147 rfl ?_
    refine gb_ldc2 27720 k_X11_441 d_X11_figureBy_149 ?_
    refine gb_lmul d_X11_figureBy_152 ?_
    refine gb_ladd d_X11_figureBy_153 ?_
    refine gb_lstore [(6, .long (y6 + (y9 * 27720))), (4, .long (y4 + ((y9 * y15) * (27720 / y17)))), (0, .ref 77), (1, .int y1), (2, .int y2), (3, .int y3), (8, .int y8), (9, .long y9), (15, .long y15), (17, .long y17)] d_X11_figureBy_154 (Nat.le_of_ble_eq_true rfl) rfl ?_
    refine gb_pick (lv' := [(0, .ref 77), (1, .int y1), (2, .int y2), (3, .int y3), (4, .long (y4 + ((y9 * y15) * (27720 / y17)))), (6, .long (y6 + (y9 * 27720))), (8, .int y8), (9, .long y9), (15, .long y15), (17, .long y17)]) [2, 3, 4, 5, 1, 0, 6, 7, 8, 9] rfl ?_
    exact t_X11_figureBy_156 hS hK9 _ y1 y2 y3 (y4 + ((y9 * y15) * (27720 / y17))) (y6 + (y9 * 27720)) y8 y9 y15 y17 h
set_option maxRecDepth 100000 in
set_option maxHeartbeats 4000000 in
theorem t_X11_figureBy_97 {Γ : gb_X} {sh : List gb_Sh} {out : gb_G} (hS : gb_S sh) {K9 : gb_G → Int32 → Int32 → Int32 → Int64 → Int64 → Int32 → Option (gb_G)} (hK9 : ∀ (g : gb_G) (y1 : Int32) (y2 : Int32) (y3 : Int32) (y4 : Int64) (y6 : Int64) (y8 : Int32), K9 g y1 y2 y3 y4 y6 y8 = some out → gb_J Γ M_X11_figureBy 6 (gb_Rv sh out) 0 0 sh g 9 [(0, .ref 77), (1, .int y1), (2, .int y2), (3, .int y3), (4, .long y4), (6, .long y6), (8, .int y8)] []) : ∀ (g : gb_G) (y1 : Int32) (y2 : Int32) (y3 : Int32) (y4 : Int64) (y6 : Int64) (y8 : Int32) (y9 : Int64) (y15 : Int64) (z0 : Int64), f_X11_figureBy_97 sh K9 g y1 y2 y3 y4 y6 y8 y9 y15 z0 = some out → gb_J Γ M_X11_figureBy 6 (gb_Rv sh out) 0 0 sh g 97 [(0, .ref 77), (1, .int y1), (2, .int y2), (3, .int y3), (4, .long y4), (6, .long y6), (8, .int y8), (9, .long y9), (15, .long y15)] [.long z0] := by
  intro g y1 y2 y3 y4 y6 y8 y9 y15 z0 h
  unfold f_X11_figureBy_97 at h
  refine gb_lstore [(17, .long z0), (0, .ref 77), (1, .int y1), (2, .int y2), (3, .int y3), (4, .long y4), (6, .long y6), (8, .int y8), (9, .long y9), (15, .long y15)] d_X11_figureBy_97 (Nat.le_of_ble_eq_true rfl) rfl ?_
  refine gb_iload_n d_X11_figureBy_99 rfl ?_
  refine gb_if_ne 123 d_X11_figureBy_100 (by decide) (fun hc => ?_) (fun hc => ?_)
  · have h := gb_if hc h
    refine gb_pick (lv' := [(0, .ref 77), (1, .int y1), (2, .int y2), (3, .int y3), (4, .long y4), (6, .long y6), (8, .int y8), (9, .long y9), (15, .long y15), (17, .long z0)]) [1, 2, 3, 4, 5, 6, 7, 8, 9, 0] rfl ?_
    exact t_X11_figureBy_123 hS hK9 _ y1 y2 y3 y4 y6 y8 y9 y15 z0 h
  · have h := gb_it hc h
    refine gb_lload d_X11_figureBy_103 rfl ?_
    refine gb_lload d_X11_figureBy_105 rfl ?_
    refine gb_lload d_X11_figureBy_107 rfl ?_
    refine gb_lmul d_X11_figureBy_109 ?_
    refine gb_ladd d_X11_figureBy_110 ?_
    refine gb_lstore [(4, .long (y4 + (y9 * y15))), (17, .long z0), (0, .ref 77), (1, .int y1), (2, .int y2), (3, .int y3), (6, .long y6), (8, .int y8), (9, .long y9), (15, .long y15)] d_X11_figureBy_111 (Nat.le_of_ble_eq_true rfl) rfl ?_
    refine gb_lload d_X11_figureBy_113 rfl ?_
    refine gb_lload d_X11_figureBy_115 rfl ?_
    refine gb_lload d_X11_figureBy_117 rfl ?_
    refine gb_lmul d_X11_figureBy_119 ?_
    refine gb_ladd d_X11_figureBy_120 ?_
    refine gb_lstore [(6, .long (y6 + (y9 * z0))), (4, .long (y4 + (y9 * y15))), (17, .long z0), (0, .ref 77), (1, .int y1), (2, .int y2), (3, .int y3), (8, .int y8), (9, .long y9), (15, .long y15)] d_X11_figureBy_121 (Nat.le_of_ble_eq_true rfl) rfl ?_
    refine gb_pick (lv' := [(0, .ref 77), (1, .int y1), (2, .int y2), (3, .int y3), (4, .long (y4 + (y9 * y15))), (6, .long (y6 + (y9 * z0))), (8, .int y8), (9, .long y9), (15, .long y15), (17, .long z0)]) [3, 4, 5, 6, 1, 0, 7, 8, 9, 2] rfl ?_
    exact t_X11_figureBy_123 hS hK9 _ y1 y2 y3 (y4 + (y9 * y15)) (y6 + (y9 * z0)) y8 y9 y15 z0 h
set_option maxRecDepth 100000 in
set_option maxHeartbeats 4000000 in
theorem t_X11_figureBy_84 {Γ : gb_X} {sh : List gb_Sh} {out : gb_G} (hS : gb_S sh) {K9 : gb_G → Int32 → Int32 → Int32 → Int64 → Int64 → Int32 → Option (gb_G)} (hK9 : ∀ (g : gb_G) (y1 : Int32) (y2 : Int32) (y3 : Int32) (y4 : Int64) (y6 : Int64) (y8 : Int32), K9 g y1 y2 y3 y4 y6 y8 = some out → gb_J Γ M_X11_figureBy 6 (gb_Rv sh out) 0 0 sh g 9 [(0, .ref 77), (1, .int y1), (2, .int y2), (3, .int y3), (4, .long y4), (6, .long y6), (8, .int y8)] []) : ∀ (g : gb_G) (y1 : Int32) (y2 : Int32) (y3 : Int32) (y4 : Int64) (y6 : Int64) (y8 : Int32) (y9 : Int64) (y11 : Int64) (y13 : Int64) (z0 : Int64), f_X11_figureBy_84 sh K9 g y1 y2 y3 y4 y6 y8 y9 y11 y13 z0 = some out → gb_J Γ M_X11_figureBy 6 (gb_Rv sh out) 0 0 sh g 84 [(0, .ref 77), (1, .int y1), (2, .int y2), (3, .int y3), (4, .long y4), (6, .long y6), (8, .int y8), (9, .long y9), (11, .long y11), (13, .long y13)] [.long z0] := by
  intro g y1 y2 y3 y4 y6 y8 y9 y11 y13 z0 h
  unfold f_X11_figureBy_84 at h
  refine gb_lstore [(15, .long z0), (0, .ref 77), (1, .int y1), (2, .int y2), (3, .int y3), (4, .long y4), (6, .long y6), (8, .int y8), (9, .long y9), (11, .long y11), (13, .long y13)] d_X11_figureBy_84 (Nat.le_of_ble_eq_true rfl) rfl ?_
  refine gb_iload_n d_X11_figureBy_86 rfl ?_
  refine gb_if_eq 95 d_X11_figureBy_87 (by decide) (fun hc => ?_) (fun hc => ?_)
  · have h := gb_it hc h
    refine gb_lload d_X11_figureBy_95 rfl ?_
    refine gb_pick (lv' := [(0, .ref 77), (1, .int y1), (2, .int y2), (3, .int y3), (4, .long y4), (6, .long y6), (8, .int y8), (9, .long y9), (15, .long z0)]) [1, 2, 3, 4, 5, 6, 7, 8, 0] rfl ?_
    exact t_X11_figureBy_97 hS hK9 _ y1 y2 y3 y4 y6 y8 y9 z0 y11 h
  · have h := gb_if hc h
    refine gb_lload d_X11_figureBy_90 rfl ?_
    refine gb_goto 97 d_X11_figureBy_92 (by decide) ?_
    refine gb_pick (lv' := [(0, .ref 77), (1, .int y1), (2, .int y2), (3, .int y3), (4, .long y4), (6, .long y6), (8, .int y8), (9, .long y9), (15, .long z0)]) [1, 2, 3, 4, 5, 6, 7, 8, 0] rfl ?_
    exact t_X11_figureBy_97 hS hK9 _ y1 y2 y3 y4 y6 y8 y9 z0 y13 h
set_option maxRecDepth 100000 in
set_option maxHeartbeats 4000000 in
theorem t_X11_figureBy_37 {Γ : gb_X} {sh : List gb_Sh} {out : gb_G} (hS : gb_S sh) {K9 : gb_G → Int32 → Int32 → Int32 → Int64 → Int64 → Int32 → Option (gb_G)} (hK9 : ∀ (g : gb_G) (y1 : Int32) (y2 : Int32) (y3 : Int32) (y4 : Int64) (y6 : Int64) (y8 : Int32), K9 g y1 y2 y3 y4 y6 y8 = some out → gb_J Γ M_X11_figureBy 6 (gb_Rv sh out) 0 0 sh g 9 [(0, .ref 77), (1, .int y1), (2, .int y2), (3, .int y3), (4, .long y4), (6, .long y6), (8, .int y8)] []) : ∀ (g : gb_G) (y1 : Int32) (y2 : Int32) (y3 : Int32) (y4 : Int64) (y6 : Int64) (y8 : Int32) (z0 : Int64), f_X11_figureBy_37 sh K9 g y1 y2 y3 y4 y6 y8 z0 = some out → gb_J Γ M_X11_figureBy 6 (gb_Rv sh out) 0 0 sh g 37 [(0, .ref 77), (1, .int y1), (2, .int y2), (3, .int y3), (4, .long y4), (6, .long y6), (8, .int y8)] [.long z0] := by
  intro g y1 y2 y3 y4 y6 y8 z0 h
  unfold f_X11_figureBy_37 at h
  refine gb_lstore [(9, .long z0), (0, .ref 77), (1, .int y1), (2, .int y2), (3, .int y3), (4, .long y4), (6, .long y6), (8, .int y8)] d_X11_figureBy_37 (Nat.le_of_ble_eq_true rfl) rfl ?_
  refine gb_aload_n d_X11_figureBy_39 rfl ?_
  refine gb_getr (r := 79) f_X11_13 (hS 77 _ rfl) rfl d_X11_figureBy_40 ?_
  refine gb_bipush 32 d_X11_figureBy_43 rfl ?_
  refine gb_aload_n d_X11_figureBy_45 rfl ?_
  refine gb_iload d_X11_figureBy_46 rfl ?_
  obtain ⟨r7, e8, h⟩ := gb_bd_e h
  refine gb_cVi (As := [.int y8]) (rest := [.int 32, .ref 79]) m_X11_438 (t_X11_pricedBy (Γ := Γ) hS e8) (hS 77 _ rfl) rfl (Nat.le_of_ble_eq_true rfl) rfl rfl (Nat.le_of_ble_eq_true rfl) d_X11_figureBy_48 ?_
  refine gb_iadd d_X11_figureBy_51 ?_
  obtain ⟨hi9, h⟩ := gb_ck_e h
  refine gb_iald_ ((32 + r7.2).toNatClampNeg) rfl (hS 79 _ rfl) hi9 d_X11_figureBy_52 ?_
  refine gb_i2l d_X11_figureBy_53 ?_
  refine gb_lstore [(11, .long ((r7.1.1 79 ((32 + r7.2).toNatClampNeg)).toInt64)), (9, .long z0), (0, .ref 77), (1, .int y1), (2, .int y2), (3, .int y3), (4, .long y4), (6, .long y6), (8, .int y8)] d_X11_figureBy_54 (Nat.le_of_ble_eq_true rfl) rfl ?_
  refine gb_aload_n d_X11_figureBy_56 rfl ?_
  refine gb_getr (r := 79) f_X11_13 (hS 77 _ rfl) rfl d_X11_figureBy_57 ?_
  refine gb_bipush 8 d_X11_figureBy_60 rfl ?_
  refine gb_aload_n d_X11_figureBy_62 rfl ?_
  refine gb_iload d_X11_figureBy_63 rfl ?_
  obtain ⟨r10, e11, h⟩ := gb_bd_e h
  refine gb_cVi (As := [.int y8]) (rest := [.int 8, .ref 79]) m_X11_438 (t_X11_pricedBy (Γ := Γ) hS e11) (hS 77 _ rfl) rfl (Nat.le_of_ble_eq_true rfl) rfl rfl (Nat.le_of_ble_eq_true rfl) d_X11_figureBy_65 ?_
  refine gb_iadd d_X11_figureBy_68 ?_
  obtain ⟨hi12, h⟩ := gb_ck_e h
  refine gb_iald_ ((8 + r10.2).toNatClampNeg) rfl (hS 79 _ rfl) hi12 d_X11_figureBy_69 ?_
  refine gb_i2l d_X11_figureBy_70 ?_
  refine gb_lstore [(13, .long ((r10.1.1 79 ((8 + r10.2).toNatClampNeg)).toInt64)), (11, .long ((r7.1.1 79 ((32 + r7.2).toNatClampNeg)).toInt64)), (9, .long z0), (0, .ref 77), (1, .int y1), (2, .int y2), (3, .int y3), (4, .long y4), (6, .long y6), (8, .int y8)] d_X11_figureBy_71 (Nat.le_of_ble_eq_true rfl) rfl ?_
  refine gb_iload_n d_X11_figureBy_73 rfl ?_
  refine gb_if_eq 82 d_X11_figureBy_74 (by decide) (fun hc => ?_) (fun hc => ?_)
  · have h := gb_it hc h
    refine gb_lload d_X11_figureBy_82 rfl ?_
    refine gb_pick (lv' := [(0, .ref 77), (1, .int y1), (2, .int y2), (3, .int y3), (4, .long y4), (6, .long y6), (8, .int y8), (9, .long z0), (11, .long ((r7.1.1 79 ((32 + r7.2).toNatClampNeg)).toInt64)), (13, .long ((r10.1.1 79 ((8 + r10.2).toNatClampNeg)).toInt64))]) [3, 4, 5, 6, 7, 8, 9, 2, 1, 0] rfl ?_
    exact t_X11_figureBy_84 hS hK9 _ y1 y2 y3 y4 y6 y8 z0 ((r7.1.1 79 ((32 + r7.2).toNatClampNeg)).toInt64) ((r10.1.1 79 ((8 + r10.2).toNatClampNeg)).toInt64) ((r10.1.1 79 ((8 + r10.2).toNatClampNeg)).toInt64) h
  · have h := gb_if hc h
    refine gb_lload d_X11_figureBy_77 rfl ?_
    refine gb_goto 84 d_X11_figureBy_79 (by decide) ?_
    refine gb_pick (lv' := [(0, .ref 77), (1, .int y1), (2, .int y2), (3, .int y3), (4, .long y4), (6, .long y6), (8, .int y8), (9, .long z0), (11, .long ((r7.1.1 79 ((32 + r7.2).toNatClampNeg)).toInt64)), (13, .long ((r10.1.1 79 ((8 + r10.2).toNatClampNeg)).toInt64))]) [3, 4, 5, 6, 7, 8, 9, 2, 1, 0] rfl ?_
    exact t_X11_figureBy_84 hS hK9 _ y1 y2 y3 y4 y6 y8 z0 ((r7.1.1 79 ((32 + r7.2).toNatClampNeg)).toInt64) ((r10.1.1 79 ((8 + r10.2).toNatClampNeg)).toInt64) ((r7.1.1 79 ((32 + r7.2).toNatClampNeg)).toInt64) h
set_option maxRecDepth 100000 in
set_option maxHeartbeats 4000000 in
theorem t_X11_figureBy_9 {Γ : gb_X} {sh : List gb_Sh} {out : gb_G} (hS : gb_S sh) : ∀ (n : Nat) (g : gb_G) (y1 : Int32) (y2 : Int32) (y3 : Int32) (y4 : Int64) (y6 : Int64) (y8 : Int32), f_X11_figureBy_9 sh n g y1 y2 y3 y4 y6 y8 = some out → gb_J Γ M_X11_figureBy 6 (gb_Rv sh out) 0 0 sh g 9 [(0, .ref 77), (1, .int y1), (2, .int y2), (3, .int y3), (4, .long y4), (6, .long y6), (8, .int y8)] [] := by
  intro n
  induction n with
  | zero => intro g y1 y2 y3 y4 y6 y8 h; cases h
  | succ n ih =>
    intro g y1 y2 y3 y4 y6 y8 h
    rw [f_X11_figureBy_9] at h
    refine gb_iload d_X11_figureBy_9 rfl ?_
    refine gb_aload_n d_X11_figureBy_11 rfl ?_
    refine gb_getr (r := 79) f_X11_13 (hS 77 _ rfl) rfl d_X11_figureBy_12 ?_
    refine gb_iconst 0 d_X11_figureBy_15 rfl ?_
    refine gb_iald_ 0 rfl (hS 79 _ rfl) (by unfold vp_in; decide) d_X11_figureBy_16 ?_
    refine gb_icmp_ge 252 d_X11_figureBy_17 (by decide) (fun hc => ?_) (fun hc => ?_)
    · have h := gb_it hc h
      refine gb_aload_n d_X11_figureBy_252 rfl ?_
      refine gb_lconst 0 d_X11_figureBy_253 rfl ?_
      refine gb_putl f_X11_432 (fun h => nomatch h) (hS 77 _ rfl) rfl rfl rfl d_X11_figureBy_254 ?_
      have h := gb_let_e h
      generalize gb_pj g 77 41 0 = g1 at h ⊢
      refine gb_aload_n d_X11_figureBy_257 rfl ?_
      refine gb_lconst 1 d_X11_figureBy_258 rfl ?_
      refine gb_putl f_X11_435 (fun h => nomatch h) (hS 77 _ rfl) rfl rfl rfl d_X11_figureBy_259 ?_
      have h := gb_let_e h
      generalize gb_pj g1 77 42 1 = g2 at h ⊢
      refine gb_lload d_X11_figureBy_262 rfl ?_
      refine gb_lconst 0 d_X11_figureBy_264 rfl ?_
      refine gb_lcmp d_X11_figureBy_265 ?_
      refine gb_if_le 277 d_X11_figureBy_266 (by decide) (fun hc => ?_) (fun hc => ?_)
      · have h := gb_it hc h
        cases h
        exact gb_vret d_X11_figureBy_277 rfl ⟨rfl, rfl, rfl⟩
      · have h := gb_if hc h
        refine gb_aload_n d_X11_figureBy_269 rfl ?_
        refine gb_lload d_X11_figureBy_270 rfl ?_
        refine gb_lload d_X11_figureBy_272 rfl ?_
        obtain ⟨r3, e4, h⟩ := gb_bd_e h
        refine gb_cVv (As := [.long y4, .long y6]) (rest := []) m_X11_443 (t_X11_lowest (Γ := Γ) hS e4) (hS 77 _ rfl) rfl (Nat.le_of_ble_eq_true rfl) rfl rfl (Nat.le_of_ble_eq_true rfl) d_X11_figureBy_274 ?_
        cases h
        exact gb_vret d_X11_figureBy_277 rfl ⟨rfl, rfl, rfl⟩
    · have h := gb_if hc h
      refine gb_iload d_X11_figureBy_20 rfl ?_
      refine gb_iload_n d_X11_figureBy_22 rfl ?_
      refine gb_icmp_ne 30 d_X11_figureBy_23 (by decide) (fun hc => ?_) (fun hc => ?_)
      · have h := gb_if hc h
        refine gb_aload_n d_X11_figureBy_30 rfl ?_
        refine gb_iload d_X11_figureBy_31 rfl ?_
        obtain ⟨r5, e6, h⟩ := gb_bd_e h
        refine gb_cVi (As := [.int y8]) (rest := []) m_X11_192 (t_X11_countsOf (Γ := Γ) hS e6) (hS 77 _ rfl) rfl (Nat.le_of_ble_eq_true rfl) rfl rfl (Nat.le_of_ble_eq_true rfl) d_X11_figureBy_33 ?_
        refine gb_i2l d_X11_figureBy_36 ?_
        exact t_X11_figureBy_37 hS (fun w w0 w1 w2 w3 w4 w5 hw => ih w w0 w1 w2 w3 w4 w5 hw) _ y1 y2 y3 y4 y6 y8 r5.2.toInt64 h
      · have h := gb_it hc h
        refine gb_lconst 0 d_X11_figureBy_26 rfl ?_
        refine gb_goto 37 d_X11_figureBy_27 (by decide) ?_
        exact t_X11_figureBy_37 hS (fun w w0 w1 w2 w3 w4 w5 hw => ih w w0 w1 w2 w3 w4 w5 hw) _ y1 y2 y3 y4 y6 y8 0 h
set_option maxRecDepth 100000 in
set_option maxHeartbeats 4000000 in
theorem t_X11_figureBy {Γ : gb_X} {sh : List gb_Sh} {x1 : Int32} {x2 : Int32} {x3 : Int32} {out : gb_G} (hS : gb_S sh) {g : gb_G} (h : f_X11_figureBy sh g x1 x2 x3 = some out) : gb_C Γ M_X11_figureBy 6 0 0 sh g [.ref 77, .int x1, .int x2, .int x3] (gb_Rv sh out) := by
  refine gb_C.of rfl (Nat.le_of_ble_eq_true rfl) ?_
  refine gb_pick (lv' := [(0, .ref 77), (1, .int x1), (2, .int x2), (3, .int x3)]) [0, 1, 2, 3] rfl ?_
  unfold f_X11_figureBy at h
  refine gb_lconst 0 d_X11_figureBy_0 rfl ?_
  refine gb_lstore [(4, .long 0), (0, .ref 77), (1, .int x1), (2, .int x2), (3, .int x3)] d_X11_figureBy_1 (Nat.le_of_ble_eq_true rfl) rfl ?_
  refine gb_lconst 0 d_X11_figureBy_3 rfl ?_
  refine gb_lstore [(6, .long 0), (4, .long 0), (0, .ref 77), (1, .int x1), (2, .int x2), (3, .int x3)] d_X11_figureBy_4 (Nat.le_of_ble_eq_true rfl) rfl ?_
  refine gb_iconst 0 d_X11_figureBy_6 rfl ?_
  refine gb_istore [(8, .int 0), (6, .long 0), (4, .long 0), (0, .ref 77), (1, .int x1), (2, .int x2), (3, .int x3)] d_X11_figureBy_7 (Nat.le_of_ble_eq_true rfl) rfl ?_
  refine gb_pick (lv' := [(0, .ref 77), (1, .int x1), (2, .int x2), (3, .int x3), (4, .long 0), (6, .long 0), (8, .int 0)]) [3, 4, 5, 6, 2, 1, 0] rfl ?_
  exact t_X11_figureBy_9 hS  gb_N _ x1 x2 x3 0 0 0 h
-- X11_figure
noncomputable def f_X11_figure_27 (sh : List gb_Sh) (g : gb_G)  : Option (gb_G × Int64) := some (g, (-1))
noncomputable def f_X11_figure (sh : List gb_Sh) (g : gb_G) (x1 : Int32) (x2 : Int32) : Option (gb_G × Int64) := gb_let (gb_pi g 77 0 0) (fun g1 => gb_bd (f_X11_in sh g1 x1.toInt64 0 3) (fun r2 => if r2.2 = 0 then (f_X11_figure_27 sh r2.1 ) else (gb_bd (f_X11_in sh r2.1 x2.toInt64 0 1) (fun r4 => if r4.2 = 0 then (f_X11_figure_27 sh r4.1 ) else (gb_bd (f_X11_figureBy sh r4.1 x1 0 (-1)) (fun r6 => if x2 = 0 then (some (r6, (r6.2.1 77 41))) else (some (r6, (r6.2.1 77 42)))))))))
set_option maxRecDepth 100000 in
set_option maxHeartbeats 4000000 in
theorem t_X11_figure_27 {Γ : gb_X} {sh : List gb_Sh} {out : gb_G × Int64} (hS : gb_S sh) : ∀ (g : gb_G) , f_X11_figure_27 sh g  = some out → gb_J Γ M_X11_figure 7 (gb_Rl sh out) 0 0 sh g 27 [] [] := by
  intro g  h
  unfold f_X11_figure_27 at h
  refine gb_ldc2 (-1) k_X11_251 d_X11_figure_27 ?_
  cases h
  exact gb_lret d_X11_figure_30 rfl ⟨rfl, rfl, rfl⟩
set_option maxRecDepth 100000 in
set_option maxHeartbeats 4000000 in
theorem t_X11_figure {Γ : gb_X} {sh : List gb_Sh} {x1 : Int32} {x2 : Int32} {out : gb_G × Int64} (hS : gb_S sh) {g : gb_G} (h : f_X11_figure sh g x1 x2 = some out) : gb_C Γ M_X11_figure 7 0 0 sh g [.ref 77, .int x1, .int x2] (gb_Rl sh out) := by
  refine gb_C.of rfl (Nat.le_of_ble_eq_true rfl) ?_
  refine gb_pick (lv' := [(0, .ref 77), (1, .int x1), (2, .int x2)]) [0, 1, 2] rfl ?_
  unfold f_X11_figure at h
  refine gb_aload_n d_X11_figure_0 rfl ?_
  refine gb_iconst 0 d_X11_figure_1 rfl ?_
  refine gb_puti f_X11_145 (fun h => nomatch h) (hS 77 _ rfl) rfl rfl rfl d_X11_figure_2 ?_
  have h := gb_let_e h
  generalize gb_pi g 77 0 0 = g1 at h ⊢
  refine gb_iload_n d_X11_figure_5 rfl ?_
  refine gb_i2l d_X11_figure_6 ?_
  refine gb_lconst 0 d_X11_figure_7 rfl ?_
  refine gb_ldc2 3 k_X11_447 d_X11_figure_8 ?_
  obtain ⟨r2, e3, h⟩ := gb_bd_e h
  refine gb_cSi (As := [.long x1.toInt64, .long 0, .long 3]) (rest := []) m_X11_165 (t_X11_in (Γ := Γ) hS e3) (Nat.le_of_ble_eq_true rfl) rfl rfl (Nat.le_of_ble_eq_true rfl) d_X11_figure_11 ?_
  refine gb_if_eq 27 d_X11_figure_14 (by decide) (fun hc => ?_) (fun hc => ?_)
  · have h := gb_it hc h
    refine gb_pick (lv' := []) [] rfl ?_
    exact t_X11_figure_27 hS  _  h
  · have h := gb_if hc h
    refine gb_iload_n d_X11_figure_17 rfl ?_
    refine gb_i2l d_X11_figure_18 ?_
    refine gb_lconst 0 d_X11_figure_19 rfl ?_
    refine gb_lconst 1 d_X11_figure_20 rfl ?_
    obtain ⟨r4, e5, h⟩ := gb_bd_e h
    refine gb_cSi (As := [.long x2.toInt64, .long 0, .long 1]) (rest := []) m_X11_165 (t_X11_in (Γ := Γ) hS e5) (Nat.le_of_ble_eq_true rfl) rfl rfl (Nat.le_of_ble_eq_true rfl) d_X11_figure_21 ?_
    refine gb_if_ne 31 d_X11_figure_24 (by decide) (fun hc => ?_) (fun hc => ?_)
    · have h := gb_if hc h
      refine gb_aload_n d_X11_figure_31 rfl ?_
      refine gb_iload_n d_X11_figure_32 rfl ?_
      refine gb_iconst 0 d_X11_figure_33 rfl ?_
      refine gb_iconst (-1) d_X11_figure_34 rfl ?_
      obtain ⟨r6, e7, h⟩ := gb_bd_e h
      refine gb_cVv (As := [.int x1, .int 0, .int (-1)]) (rest := []) m_X11_449 (t_X11_figureBy (Γ := Γ) hS e7) (hS 77 _ rfl) rfl (Nat.le_of_ble_eq_true rfl) rfl rfl (Nat.le_of_ble_eq_true rfl) d_X11_figure_35 ?_
      refine gb_iload_n d_X11_figure_38 rfl ?_
      refine gb_if_ne 49 d_X11_figure_39 (by decide) (fun hc => ?_) (fun hc => ?_)
      · have h := gb_if hc h
        refine gb_aload_n d_X11_figure_49 rfl ?_
        refine gb_getl f_X11_435 (hS 77 _ rfl) rfl d_X11_figure_50 ?_
        cases h
        exact gb_lret d_X11_figure_53 rfl ⟨rfl, rfl, rfl⟩
      · have h := gb_it hc h
        refine gb_aload_n d_X11_figure_42 rfl ?_
        refine gb_getl f_X11_432 (hS 77 _ rfl) rfl d_X11_figure_43 ?_
        refine gb_goto 53 d_X11_figure_46 (by decide) ?_
        cases h
        exact gb_lret d_X11_figure_53 rfl ⟨rfl, rfl, rfl⟩
    · have h := gb_it hc h
      refine gb_pick (lv' := []) [] rfl ?_
      exact t_X11_figure_27 hS  _  h
-- X11_turned
noncomputable def f_X11_turned_27 (sh : List gb_Sh) (g : gb_G)  : Option (gb_G × Int64) := some (g, (-1))
noncomputable def f_X11_turned (sh : List gb_Sh) (g : gb_G) (x1 : Int32) (x2 : Int32) : Option (gb_G × Int64) := gb_let (gb_pi g 77 0 0) (fun g1 => gb_bd (f_X11_in sh g1 x1.toInt64 0 3) (fun r2 => if r2.2 = 0 then (f_X11_turned_27 sh r2.1 ) else (gb_bd (f_X11_in sh r2.1 x2.toInt64 0 1) (fun r4 => if r4.2 = 0 then (f_X11_turned_27 sh r4.1 ) else (gb_bd (f_X11_figureBy sh r4.1 x1 0 (-1)) (fun r6 => gb_bd (f_X11_figureBy sh r6 x1 1 (-1)) (fun r8 => gb_bd (f_X11_lowest sh r8 ((r6.2.1 77 41) * (r8.2.1 77 41)) ((r6.2.1 77 42) * (r8.2.1 77 42))) (fun r10 => if x2 = 0 then (some (r10, (r10.2.1 77 41))) else (some (r10, (r10.2.1 77 42)))))))))))
set_option maxRecDepth 100000 in
set_option maxHeartbeats 4000000 in
theorem t_X11_turned_27 {Γ : gb_X} {sh : List gb_Sh} {out : gb_G × Int64} (hS : gb_S sh) : ∀ (g : gb_G) , f_X11_turned_27 sh g  = some out → gb_J Γ M_X11_turned 7 (gb_Rl sh out) 0 0 sh g 27 [] [] := by
  intro g  h
  unfold f_X11_turned_27 at h
  refine gb_ldc2 (-1) k_X11_251 d_X11_turned_27 ?_
  cases h
  exact gb_lret d_X11_turned_30 rfl ⟨rfl, rfl, rfl⟩
set_option maxRecDepth 100000 in
set_option maxHeartbeats 4000000 in
theorem t_X11_turned {Γ : gb_X} {sh : List gb_Sh} {x1 : Int32} {x2 : Int32} {out : gb_G × Int64} (hS : gb_S sh) {g : gb_G} (h : f_X11_turned sh g x1 x2 = some out) : gb_C Γ M_X11_turned 7 0 0 sh g [.ref 77, .int x1, .int x2] (gb_Rl sh out) := by
  refine gb_C.of rfl (Nat.le_of_ble_eq_true rfl) ?_
  refine gb_pick (lv' := [(0, .ref 77), (1, .int x1), (2, .int x2)]) [0, 1, 2] rfl ?_
  unfold f_X11_turned at h
  refine gb_aload_n d_X11_turned_0 rfl ?_
  refine gb_iconst 0 d_X11_turned_1 rfl ?_
  refine gb_puti f_X11_145 (fun h => nomatch h) (hS 77 _ rfl) rfl rfl rfl d_X11_turned_2 ?_
  have h := gb_let_e h
  generalize gb_pi g 77 0 0 = g1 at h ⊢
  refine gb_iload_n d_X11_turned_5 rfl ?_
  refine gb_i2l d_X11_turned_6 ?_
  refine gb_lconst 0 d_X11_turned_7 rfl ?_
  refine gb_ldc2 3 k_X11_447 d_X11_turned_8 ?_
  obtain ⟨r2, e3, h⟩ := gb_bd_e h
  refine gb_cSi (As := [.long x1.toInt64, .long 0, .long 3]) (rest := []) m_X11_165 (t_X11_in (Γ := Γ) hS e3) (Nat.le_of_ble_eq_true rfl) rfl rfl (Nat.le_of_ble_eq_true rfl) d_X11_turned_11 ?_
  refine gb_if_eq 27 d_X11_turned_14 (by decide) (fun hc => ?_) (fun hc => ?_)
  · have h := gb_it hc h
    refine gb_pick (lv' := []) [] rfl ?_
    exact t_X11_turned_27 hS  _  h
  · have h := gb_if hc h
    refine gb_iload_n d_X11_turned_17 rfl ?_
    refine gb_i2l d_X11_turned_18 ?_
    refine gb_lconst 0 d_X11_turned_19 rfl ?_
    refine gb_lconst 1 d_X11_turned_20 rfl ?_
    obtain ⟨r4, e5, h⟩ := gb_bd_e h
    refine gb_cSi (As := [.long x2.toInt64, .long 0, .long 1]) (rest := []) m_X11_165 (t_X11_in (Γ := Γ) hS e5) (Nat.le_of_ble_eq_true rfl) rfl rfl (Nat.le_of_ble_eq_true rfl) d_X11_turned_21 ?_
    refine gb_if_ne 31 d_X11_turned_24 (by decide) (fun hc => ?_) (fun hc => ?_)
    · have h := gb_if hc h
      refine gb_aload_n d_X11_turned_31 rfl ?_
      refine gb_iload_n d_X11_turned_32 rfl ?_
      refine gb_iconst 0 d_X11_turned_33 rfl ?_
      refine gb_iconst (-1) d_X11_turned_34 rfl ?_
      obtain ⟨r6, e7, h⟩ := gb_bd_e h
      refine gb_cVv (As := [.int x1, .int 0, .int (-1)]) (rest := []) m_X11_449 (t_X11_figureBy (Γ := Γ) hS e7) (hS 77 _ rfl) rfl (Nat.le_of_ble_eq_true rfl) rfl rfl (Nat.le_of_ble_eq_true rfl) d_X11_turned_35 ?_
      refine gb_aload_n d_X11_turned_38 rfl ?_
      refine gb_getl f_X11_432 (hS 77 _ rfl) rfl d_X11_turned_39 ?_
      refine gb_lstore_n [(3, .long (r6.2.1 77 41)), (0, .ref 77), (1, .int x1), (2, .int x2)] d_X11_turned_42 (Nat.le_of_ble_eq_true rfl) rfl ?_
      refine gb_aload_n d_X11_turned_43 rfl ?_
      refine gb_getl f_X11_435 (hS 77 _ rfl) rfl d_X11_turned_44 ?_
      refine gb_lstore [(5, .long (r6.2.1 77 42)), (3, .long (r6.2.1 77 41)), (0, .ref 77), (1, .int x1), (2, .int x2)] d_X11_turned_47 (Nat.le_of_ble_eq_true rfl) rfl ?_
      refine gb_aload_n d_X11_turned_49 rfl ?_
      refine gb_iload_n d_X11_turned_50 rfl ?_
      refine gb_iconst 1 d_X11_turned_51 rfl ?_
      refine gb_iconst (-1) d_X11_turned_52 rfl ?_
      obtain ⟨r8, e9, h⟩ := gb_bd_e h
      refine gb_cVv (As := [.int x1, .int 1, .int (-1)]) (rest := []) m_X11_449 (t_X11_figureBy (Γ := Γ) hS e9) (hS 77 _ rfl) rfl (Nat.le_of_ble_eq_true rfl) rfl rfl (Nat.le_of_ble_eq_true rfl) d_X11_turned_53 ?_
      refine gb_aload_n d_X11_turned_56 rfl ?_
      refine gb_lload_n d_X11_turned_57 rfl ?_
      refine gb_aload_n d_X11_turned_58 rfl ?_
      refine gb_getl f_X11_432 (hS 77 _ rfl) rfl d_X11_turned_59 ?_
      refine gb_lmul d_X11_turned_62 ?_
      refine gb_lload d_X11_turned_63 rfl ?_
      refine gb_aload_n d_X11_turned_65 rfl ?_
      refine gb_getl f_X11_435 (hS 77 _ rfl) rfl d_X11_turned_66 ?_
      refine gb_lmul d_X11_turned_69 ?_
      obtain ⟨r10, e11, h⟩ := gb_bd_e h
      refine gb_cVv (As := [.long ((r6.2.1 77 41) * (r8.2.1 77 41)), .long ((r6.2.1 77 42) * (r8.2.1 77 42))]) (rest := []) m_X11_443 (t_X11_lowest (Γ := Γ) hS e11) (hS 77 _ rfl) rfl (Nat.le_of_ble_eq_true rfl) rfl rfl (Nat.le_of_ble_eq_true rfl) d_X11_turned_70 ?_
      refine gb_iload_n d_X11_turned_73 rfl ?_
      refine gb_if_ne 84 d_X11_turned_74 (by decide) (fun hc => ?_) (fun hc => ?_)
      · have h := gb_if hc h
        refine gb_aload_n d_X11_turned_84 rfl ?_
        refine gb_getl f_X11_435 (hS 77 _ rfl) rfl d_X11_turned_85 ?_
        cases h
        exact gb_lret d_X11_turned_88 rfl ⟨rfl, rfl, rfl⟩
      · have h := gb_it hc h
        refine gb_aload_n d_X11_turned_77 rfl ?_
        refine gb_getl f_X11_432 (hS 77 _ rfl) rfl d_X11_turned_78 ?_
        refine gb_goto 88 d_X11_turned_81 (by decide) ?_
        cases h
        exact gb_lret d_X11_turned_88 rfl ⟨rfl, rfl, rfl⟩
    · have h := gb_it hc h
      refine gb_pick (lv' := []) [] rfl ?_
      exact t_X11_turned_27 hS  _  h
-- X11_pensionNow
noncomputable def f_X11_pensionNow (sh : List gb_Sh) (g : gb_G) : Option (gb_G × Int32) := gb_bd (f_X11_figureBy sh g 0 0 (-1)) (fun r1 => if (lg_cmp (r1.2.1 77 41) 0) = 0 then (some (r1, 100)) else (gb_nzl (r1.2.1 77 42) (some (r1, ((100 * (r1.2.1 77 41)) / (r1.2.1 77 42)).toInt32))))
set_option maxRecDepth 100000 in
set_option maxHeartbeats 4000000 in
theorem t_X11_pensionNow {Γ : gb_X} {sh : List gb_Sh} {out : gb_G × Int32} (hS : gb_S sh) {g : gb_G} (h : f_X11_pensionNow sh g = some out) : gb_C Γ M_X11_pensionNow 7 0 0 sh g [.ref 77] (gb_Ri sh out) := by
  refine gb_C.of rfl (Nat.le_of_ble_eq_true rfl) ?_
  refine gb_pick (lv' := [(0, .ref 77)]) [0] rfl ?_
  unfold f_X11_pensionNow at h
  refine gb_aload_n d_X11_pensionNow_0 rfl ?_
  refine gb_iconst 0 d_X11_pensionNow_1 rfl ?_
  refine gb_iconst 0 d_X11_pensionNow_2 rfl ?_
  refine gb_iconst (-1) d_X11_pensionNow_3 rfl ?_
  obtain ⟨r1, e2, h⟩ := gb_bd_e h
  refine gb_cVv (As := [.int 0, .int 0, .int (-1)]) (rest := []) m_X11_449 (t_X11_figureBy (Γ := Γ) hS e2) (hS 77 _ rfl) rfl (Nat.le_of_ble_eq_true rfl) rfl rfl (Nat.le_of_ble_eq_true rfl) d_X11_pensionNow_4 ?_
  refine gb_aload_n d_X11_pensionNow_7 rfl ?_
  refine gb_getl f_X11_432 (hS 77 _ rfl) rfl d_X11_pensionNow_8 ?_
  refine gb_lconst 0 d_X11_pensionNow_11 rfl ?_
  refine gb_lcmp d_X11_pensionNow_12 ?_
  refine gb_if_ne 21 d_X11_pensionNow_13 (by decide) (fun hc => ?_) (fun hc => ?_)
  · have h := gb_if hc h
    refine gb_ldc2 100 k_X11_453 d_X11_pensionNow_21 ?_
    refine gb_aload_n d_X11_pensionNow_24 rfl ?_
    refine gb_getl f_X11_432 (hS 77 _ rfl) rfl d_X11_pensionNow_25 ?_
    refine gb_lmul d_X11_pensionNow_28 ?_
    refine gb_aload_n d_X11_pensionNow_29 rfl ?_
    refine gb_getl f_X11_435 (hS 77 _ rfl) rfl d_X11_pensionNow_30 ?_
    obtain ⟨hn3, h⟩ := gb_nzl_e h
    refine gb_ldiv d_X11_pensionNow_33 hn3 ?_
    refine gb_l2i d_X11_pensionNow_34 ?_
    cases h
    exact gb_iret d_X11_pensionNow_35 rfl ⟨rfl, rfl, rfl⟩
  · have h := gb_it hc h
    refine gb_bipush 100 d_X11_pensionNow_16 rfl ?_
    refine gb_goto 35 d_X11_pensionNow_18 (by decide) ?_
    cases h
    exact gb_iret d_X11_pensionNow_35 rfl ⟨rfl, rfl, rfl⟩
-- X11_pension
noncomputable def f_X11_pension (sh : List gb_Sh) (g : gb_G) : Option (gb_G × Int32) := gb_let (gb_pi g 77 0 0) (fun g1 => gb_bd (f_X11_pensionNow sh g1) (fun r2 => some (r2.1, r2.2)))
set_option maxRecDepth 100000 in
set_option maxHeartbeats 4000000 in
theorem t_X11_pension {Γ : gb_X} {sh : List gb_Sh} {out : gb_G × Int32} (hS : gb_S sh) {g : gb_G} (h : f_X11_pension sh g = some out) : gb_C Γ M_X11_pension 8 0 0 sh g [.ref 77] (gb_Ri sh out) := by
  refine gb_C.of rfl (Nat.le_of_ble_eq_true rfl) ?_
  refine gb_pick (lv' := [(0, .ref 77)]) [0] rfl ?_
  unfold f_X11_pension at h
  refine gb_aload_n d_X11_pension_0 rfl ?_
  refine gb_iconst 0 d_X11_pension_1 rfl ?_
  refine gb_puti f_X11_145 (fun h => nomatch h) (hS 77 _ rfl) rfl rfl rfl d_X11_pension_2 ?_
  have h := gb_let_e h
  generalize gb_pi g 77 0 0 = g1 at h ⊢
  refine gb_aload_n d_X11_pension_5 rfl ?_
  obtain ⟨r2, e3, h⟩ := gb_bd_e h
  refine gb_cVi (As := []) (rest := []) m_X11_455 (t_X11_pensionNow (Γ := Γ) hS e3) (hS 77 _ rfl) rfl (Nat.le_of_ble_eq_true rfl) rfl rfl (Nat.le_of_ble_eq_true rfl) d_X11_pension_6 ?_
  cases h
  exact gb_iret d_X11_pension_9 rfl ⟨rfl, rfl, rfl⟩
-- X11_thousandths
noncomputable def f_X11_thousandths (sh : List gb_Sh) (g : gb_G) (x1 : Int32) : Option (gb_G × Int32) := gb_bd (f_X11_figureBy sh g 0 0 x1) (fun r1 => gb_nzl (r1.2.1 77 42) (some (r1, ((1000 * (r1.2.1 77 41)) / (r1.2.1 77 42)).toInt32)))
set_option maxRecDepth 100000 in
set_option maxHeartbeats 4000000 in
theorem t_X11_thousandths {Γ : gb_X} {sh : List gb_Sh} {x1 : Int32} {out : gb_G × Int32} (hS : gb_S sh) {g : gb_G} (h : f_X11_thousandths sh g x1 = some out) : gb_C Γ M_X11_thousandths 7 0 0 sh g [.ref 77, .int x1] (gb_Ri sh out) := by
  refine gb_C.of rfl (Nat.le_of_ble_eq_true rfl) ?_
  refine gb_pick (lv' := [(0, .ref 77), (1, .int x1)]) [0, 1] rfl ?_
  unfold f_X11_thousandths at h
  refine gb_aload_n d_X11_thousandths_0 rfl ?_
  refine gb_iconst 0 d_X11_thousandths_1 rfl ?_
  refine gb_iconst 0 d_X11_thousandths_2 rfl ?_
  refine gb_iload_n d_X11_thousandths_3 rfl ?_
  obtain ⟨r1, e2, h⟩ := gb_bd_e h
  refine gb_cVv (As := [.int 0, .int 0, .int x1]) (rest := []) m_X11_449 (t_X11_figureBy (Γ := Γ) hS e2) (hS 77 _ rfl) rfl (Nat.le_of_ble_eq_true rfl) rfl rfl (Nat.le_of_ble_eq_true rfl) d_X11_thousandths_4 ?_
  refine gb_ldc2 1000 k_X11_309 d_X11_thousandths_7 ?_
  refine gb_aload_n d_X11_thousandths_10 rfl ?_
  refine gb_getl f_X11_432 (hS 77 _ rfl) rfl d_X11_thousandths_11 ?_
  refine gb_lmul d_X11_thousandths_14 ?_
  refine gb_aload_n d_X11_thousandths_15 rfl ?_
  refine gb_getl f_X11_435 (hS 77 _ rfl) rfl d_X11_thousandths_16 ?_
  obtain ⟨hn3, h⟩ := gb_nzl_e h
  refine gb_ldiv d_X11_thousandths_19 hn3 ?_
  refine gb_l2i d_X11_thousandths_20 ?_
  cases h
  exact gb_iret d_X11_thousandths_21 rfl ⟨rfl, rfl, rfl⟩
-- X11_does
noncomputable def f_X11_does (sh : List gb_Sh) (g : gb_G) (x1 : Int32) : Option (gb_G × Int32) := gb_let (gb_pi g 77 0 0) (fun g1 => gb_bd (f_X11_isGood sh g1 x1) (fun r2 => if r2.2 = 0 then (some (r2.1, (-100000))) else (gb_bd (f_X11_thousandths sh r2.1 (-1)) (fun r4 => gb_bd (f_X11_thousandths sh r4.1 x1) (fun r6 => some (r6.1, (r4.2 - r6.2)))))))
set_option maxRecDepth 100000 in
set_option maxHeartbeats 4000000 in
theorem t_X11_does {Γ : gb_X} {sh : List gb_Sh} {x1 : Int32} {out : gb_G × Int32} (hS : gb_S sh) {g : gb_G} (h : f_X11_does sh g x1 = some out) : gb_C Γ M_X11_does 8 0 0 sh g [.ref 77, .int x1] (gb_Ri sh out) := by
  refine gb_C.of rfl (Nat.le_of_ble_eq_true rfl) ?_
  refine gb_pick (lv' := [(0, .ref 77), (1, .int x1)]) [0, 1] rfl ?_
  unfold f_X11_does at h
  refine gb_aload_n d_X11_does_0 rfl ?_
  refine gb_iconst 0 d_X11_does_1 rfl ?_
  refine gb_puti f_X11_145 (fun h => nomatch h) (hS 77 _ rfl) rfl rfl rfl d_X11_does_2 ?_
  have h := gb_let_e h
  generalize gb_pi g 77 0 0 = g1 at h ⊢
  refine gb_aload_n d_X11_does_5 rfl ?_
  refine gb_iload_n d_X11_does_6 rfl ?_
  obtain ⟨r2, e3, h⟩ := gb_bd_e h
  refine gb_cVi (As := [.int x1]) (rest := []) m_X11_184 (t_X11_isGood (Γ := Γ) hS e3) (hS 77 _ rfl) rfl (Nat.le_of_ble_eq_true rfl) rfl rfl (Nat.le_of_ble_eq_true rfl) d_X11_does_7 ?_
  refine gb_if_eq 27 d_X11_does_10 (by decide) (fun hc => ?_) (fun hc => ?_)
  · have h := gb_it hc h
    refine gb_ldc (-100000) k_X11_188 d_X11_does_27 ?_
    cases h
    exact gb_iret d_X11_does_29 rfl ⟨rfl, rfl, rfl⟩
  · have h := gb_if hc h
    refine gb_aload_n d_X11_does_13 rfl ?_
    refine gb_iconst (-1) d_X11_does_14 rfl ?_
    obtain ⟨r4, e5, h⟩ := gb_bd_e h
    refine gb_cVi (As := [.int (-1)]) (rest := []) m_X11_458 (t_X11_thousandths (Γ := Γ) hS e5) (hS 77 _ rfl) rfl (Nat.le_of_ble_eq_true rfl) rfl rfl (Nat.le_of_ble_eq_true rfl) d_X11_does_15 ?_
    refine gb_aload_n d_X11_does_18 rfl ?_
    refine gb_iload_n d_X11_does_19 rfl ?_
    obtain ⟨r6, e7, h⟩ := gb_bd_e h
    refine gb_cVi (As := [.int x1]) (rest := [.int r4.2]) m_X11_458 (t_X11_thousandths (Γ := Γ) hS e7) (hS 77 _ rfl) rfl (Nat.le_of_ble_eq_true rfl) rfl rfl (Nat.le_of_ble_eq_true rfl) d_X11_does_20 ?_
    refine gb_isub d_X11_does_23 ?_
    refine gb_goto 29 d_X11_does_24 (by decide) ?_
    cases h
    exact gb_iret d_X11_does_29 rfl ⟨rfl, rfl, rfl⟩
-- X11_compare
noncomputable def f_X11_compare (sh : List gb_Sh) (g : gb_G) (x1 : Int32) : Option (gb_G × Int32) := gb_let (gb_pi g 77 0 0) (fun g1 => gb_bd (f_X11_isLaw sh g1 x1) (fun r2 => if r2.2 = 0 then (some (r2.1, (-1))) else (gb_let (gb_pi r2.1 79 4 x1) (fun g4 => gb_bd (f_X11_thousandths sh g4 (-1)) (fun r5 => gb_let (gb_pi r5.1 79 4 (r2.1.1 79 4)) (fun g7 => some (g7, r5.2)))))))
set_option maxRecDepth 100000 in
set_option maxHeartbeats 4000000 in
theorem t_X11_compare {Γ : gb_X} {sh : List gb_Sh} {x1 : Int32} {out : gb_G × Int32} (hS : gb_S sh) {g : gb_G} (h : f_X11_compare sh g x1 = some out) : gb_C Γ M_X11_compare 8 0 0 sh g [.ref 77, .int x1] (gb_Ri sh out) := by
  refine gb_C.of rfl (Nat.le_of_ble_eq_true rfl) ?_
  refine gb_pick (lv' := [(0, .ref 77), (1, .int x1)]) [0, 1] rfl ?_
  unfold f_X11_compare at h
  refine gb_aload_n d_X11_compare_0 rfl ?_
  refine gb_iconst 0 d_X11_compare_1 rfl ?_
  refine gb_puti f_X11_145 (fun h => nomatch h) (hS 77 _ rfl) rfl rfl rfl d_X11_compare_2 ?_
  have h := gb_let_e h
  generalize gb_pi g 77 0 0 = g1 at h ⊢
  refine gb_aload_n d_X11_compare_5 rfl ?_
  refine gb_iload_n d_X11_compare_6 rfl ?_
  obtain ⟨r2, e3, h⟩ := gb_bd_e h
  refine gb_cVi (As := [.int x1]) (rest := []) m_X11_370 (t_X11_isLaw (Γ := Γ) hS e3) (hS 77 _ rfl) rfl (Nat.le_of_ble_eq_true rfl) rfl rfl (Nat.le_of_ble_eq_true rfl) d_X11_compare_7 ?_
  refine gb_if_ne 15 d_X11_compare_10 (by decide) (fun hc => ?_) (fun hc => ?_)
  · have h := gb_if hc h
    refine gb_aload_n d_X11_compare_15 rfl ?_
    refine gb_getr (r := 79) f_X11_13 (hS 77 _ rfl) rfl d_X11_compare_16 ?_
    refine gb_iconst 4 d_X11_compare_19 rfl ?_
    refine gb_iald_ 4 rfl (hS 79 _ rfl) (by unfold vp_in; decide) d_X11_compare_20 ?_
    refine gb_istore_n [(2, .int (r2.1.1 79 4)), (0, .ref 77), (1, .int x1)] d_X11_compare_21 (Nat.le_of_ble_eq_true rfl) rfl ?_
    refine gb_aload_n d_X11_compare_22 rfl ?_
    refine gb_getr (r := 79) f_X11_13 (hS 77 _ rfl) rfl d_X11_compare_23 ?_
    refine gb_iconst 4 d_X11_compare_26 rfl ?_
    refine gb_iload_n d_X11_compare_27 rfl ?_
    refine gb_iast_ 4 rfl (hS 79 _ rfl) (by unfold vp_in; decide) d_X11_compare_28 ?_
    have h := gb_let_e h
    generalize gb_pi r2.1 79 4 x1 = g4 at h ⊢
    refine gb_aload_n d_X11_compare_29 rfl ?_
    refine gb_iconst (-1) d_X11_compare_30 rfl ?_
    obtain ⟨r5, e6, h⟩ := gb_bd_e h
    refine gb_cVi (As := [.int (-1)]) (rest := []) m_X11_458 (t_X11_thousandths (Γ := Γ) hS e6) (hS 77 _ rfl) rfl (Nat.le_of_ble_eq_true rfl) rfl rfl (Nat.le_of_ble_eq_true rfl) d_X11_compare_31 ?_
    refine gb_istore_n [(3, .int r5.2), (2, .int (r2.1.1 79 4)), (0, .ref 77), (1, .int x1)] d_X11_compare_34 (Nat.le_of_ble_eq_true rfl) rfl ?_
    refine gb_aload_n d_X11_compare_35 rfl ?_
    refine gb_getr (r := 79) f_X11_13 (hS 77 _ rfl) rfl d_X11_compare_36 ?_
    refine gb_iconst 4 d_X11_compare_39 rfl ?_
    refine gb_iload_n d_X11_compare_40 rfl ?_
    refine gb_iast_ 4 rfl (hS 79 _ rfl) (by unfold vp_in; decide) d_X11_compare_41 ?_
    have h := gb_let_e h
    generalize gb_pi r5.1 79 4 (r2.1.1 79 4) = g7 at h ⊢
    refine gb_iload_n d_X11_compare_42 rfl ?_
    cases h
    exact gb_iret d_X11_compare_43 rfl ⟨rfl, rfl, rfl⟩
  · have h := gb_it hc h
    refine gb_iconst (-1) d_X11_compare_13 rfl ?_
    cases h
    exact gb_iret d_X11_compare_14 rfl ⟨rfl, rfl, rfl⟩
-- X11_leastBy
noncomputable def f_X11_leastBy_33 (sh : List gb_Sh) (g : gb_G) (y1 : Int32) (y3 : Int32) (z0 : Int32) (z1 : Int32) : Option (gb_G × Int32) := gb_ck (z1 + z0) 900 (if (g.1 98 ((z1 + z0).toNatClampNeg)) = 100000000 then (some (g, 100000000)) else (gb_ck (8 + y1) 5520 (some (g, ((y3 * (g.1 79 ((8 + y1).toNatClampNeg))) + (g.1 98 ((z1 + z0).toNatClampNeg)))))))
noncomputable def f_X11_leastBy (sh : List gb_Sh) (g : gb_G) (x1 : Int32) (x2 : Int32) (x3 : Int32) : Option (gb_G × Int32) := gb_bd (f_X11_gladsOf sh g x1) (fun r1 => if 0 ≤ (x2 - (x3 * r1.2)) then (f_X11_leastBy_33 sh r1.1 x1 x3 (x2 - (x3 * r1.2)) ((100 * x1) + 100)) else (f_X11_leastBy_33 sh r1.1 x1 x3 0 ((100 * x1) + 100)))
set_option maxRecDepth 100000 in
set_option maxHeartbeats 4000000 in
theorem t_X11_leastBy_33 {Γ : gb_X} {sh : List gb_Sh} {out : gb_G × Int32} (hS : gb_S sh) : ∀ (g : gb_G) (y1 : Int32) (y3 : Int32) (z0 : Int32) (z1 : Int32), f_X11_leastBy_33 sh g y1 y3 z0 z1 = some out → gb_J Γ M_X11_leastBy 6 (gb_Ri sh out) 0 0 sh g 33 [(0, .ref 77), (1, .int y1), (3, .int y3)] [.int z0, .int z1, .ref 98] := by
  intro g y1 y3 z0 z1 h
  unfold f_X11_leastBy_33 at h
  refine gb_iadd d_X11_leastBy_33 ?_
  obtain ⟨hi3, h⟩ := gb_ck_e h
  refine gb_iald_ ((z1 + z0).toNatClampNeg) rfl (hS 98 _ rfl) hi3 d_X11_leastBy_34 ?_
  refine gb_istore [(5, .int (g.1 98 ((z1 + z0).toNatClampNeg))), (0, .ref 77), (1, .int y1), (3, .int y3)] d_X11_leastBy_35 (Nat.le_of_ble_eq_true rfl) rfl ?_
  refine gb_iload d_X11_leastBy_37 rfl ?_
  refine gb_ldcw 100000000 k_X11_461 d_X11_leastBy_39 ?_
  refine gb_icmp_ne 51 d_X11_leastBy_42 (by decide) (fun hc => ?_) (fun hc => ?_)
  · have h := gb_if hc h
    refine gb_iload_n d_X11_leastBy_51 rfl ?_
    refine gb_aload_n d_X11_leastBy_52 rfl ?_
    refine gb_getr (r := 79) f_X11_13 (hS 77 _ rfl) rfl d_X11_leastBy_53 ?_
    refine gb_bipush 8 d_X11_leastBy_56 rfl ?_
    refine gb_iload_n d_X11_leastBy_58 rfl ?_
    refine gb_iadd d_X11_leastBy_59 ?_
    obtain ⟨hi4, h⟩ := gb_ck_e h
    refine gb_iald_ ((8 + y1).toNatClampNeg) rfl (hS 79 _ rfl) hi4 d_X11_leastBy_60 ?_
    refine gb_imul d_X11_leastBy_61 ?_
    refine gb_iload d_X11_leastBy_62 rfl ?_
    refine gb_iadd d_X11_leastBy_64 ?_
    cases h
    exact gb_iret d_X11_leastBy_65 rfl ⟨rfl, rfl, rfl⟩
  · have h := gb_it hc h
    refine gb_ldcw 100000000 k_X11_461 d_X11_leastBy_45 ?_
    refine gb_goto 65 d_X11_leastBy_48 (by decide) ?_
    cases h
    exact gb_iret d_X11_leastBy_65 rfl ⟨rfl, rfl, rfl⟩
set_option maxRecDepth 100000 in
set_option maxHeartbeats 4000000 in
theorem t_X11_leastBy {Γ : gb_X} {sh : List gb_Sh} {x1 : Int32} {x2 : Int32} {x3 : Int32} {out : gb_G × Int32} (hS : gb_S sh) {g : gb_G} (h : f_X11_leastBy sh g x1 x2 x3 = some out) : gb_C Γ M_X11_leastBy 6 0 0 sh g [.ref 77, .int x1, .int x2, .int x3] (gb_Ri sh out) := by
  refine gb_C.of rfl (Nat.le_of_ble_eq_true rfl) ?_
  refine gb_pick (lv' := [(0, .ref 77), (1, .int x1), (2, .int x2), (3, .int x3)]) [0, 1, 2, 3] rfl ?_
  unfold f_X11_leastBy at h
  refine gb_iload_n d_X11_leastBy_0 rfl ?_
  refine gb_iload_n d_X11_leastBy_1 rfl ?_
  refine gb_aload_n d_X11_leastBy_2 rfl ?_
  refine gb_iload_n d_X11_leastBy_3 rfl ?_
  obtain ⟨r1, e2, h⟩ := gb_bd_e h
  refine gb_cVi (As := [.int x1]) (rest := [.int x3, .int x2]) m_X11_195 (t_X11_gladsOf (Γ := Γ) hS e2) (hS 77 _ rfl) rfl (Nat.le_of_ble_eq_true rfl) rfl rfl (Nat.le_of_ble_eq_true rfl) d_X11_leastBy_4 ?_
  refine gb_imul d_X11_leastBy_7 ?_
  refine gb_isub d_X11_leastBy_8 ?_
  refine gb_istore [(4, .int (x2 - (x3 * r1.2))), (0, .ref 77), (1, .int x1), (2, .int x2), (3, .int x3)] d_X11_leastBy_9 (Nat.le_of_ble_eq_true rfl) rfl ?_
  refine gb_aload_n d_X11_leastBy_11 rfl ?_
  refine gb_getr (r := 98) f_X11_110 (hS 77 _ rfl) rfl d_X11_leastBy_12 ?_
  refine gb_bipush 100 d_X11_leastBy_15 rfl ?_
  refine gb_iload_n d_X11_leastBy_17 rfl ?_
  refine gb_imul d_X11_leastBy_18 ?_
  refine gb_bipush 100 d_X11_leastBy_19 rfl ?_
  refine gb_iadd d_X11_leastBy_21 ?_
  refine gb_iload d_X11_leastBy_22 rfl ?_
  refine gb_if_ge 31 d_X11_leastBy_24 (by decide) (fun hc => ?_) (fun hc => ?_)
  · have h := gb_it hc h
    refine gb_iload d_X11_leastBy_31 rfl ?_
    refine gb_pick (lv' := [(0, .ref 77), (1, .int x1), (3, .int x3)]) [1, 2, 4] rfl ?_
    exact t_X11_leastBy_33 hS  _ x1 x3 (x2 - (x3 * r1.2)) ((100 * x1) + 100) h
  · have h := gb_if hc h
    refine gb_iconst 0 d_X11_leastBy_27 rfl ?_
    refine gb_goto 33 d_X11_leastBy_28 (by decide) ?_
    refine gb_pick (lv' := [(0, .ref 77), (1, .int x1), (3, .int x3)]) [1, 2, 4] rfl ?_
    exact t_X11_leastBy_33 hS  _ x1 x3 0 ((100 * x1) + 100) h
-- X11_mostOf
noncomputable def f_X11_mostOf (sh : List gb_Sh) (g : gb_G) (x1 : Int32) : Option (gb_G × Int32) := gb_ck (16 + x1) 5520 (if (g.1 79 ((16 + x1).toNatClampNeg)) = 1 then (some (g, 0)) else (gb_bd (f_X11_isBarred sh g x1) (fun r2 => if r2.2 = 0 then (some (r2.1, 9)) else (some (r2.1, 0)))))
set_option maxRecDepth 100000 in
set_option maxHeartbeats 4000000 in
theorem t_X11_mostOf {Γ : gb_X} {sh : List gb_Sh} {x1 : Int32} {out : gb_G × Int32} (hS : gb_S sh) {g : gb_G} (h : f_X11_mostOf sh g x1 = some out) : gb_C Γ M_X11_mostOf 6 0 0 sh g [.ref 77, .int x1] (gb_Ri sh out) := by
  refine gb_C.of rfl (Nat.le_of_ble_eq_true rfl) ?_
  refine gb_pick (lv' := [(0, .ref 77), (1, .int x1)]) [0, 1] rfl ?_
  unfold f_X11_mostOf at h
  refine gb_aload_n d_X11_mostOf_0 rfl ?_
  refine gb_getr (r := 79) f_X11_13 (hS 77 _ rfl) rfl d_X11_mostOf_1 ?_
  refine gb_bipush 16 d_X11_mostOf_4 rfl ?_
  refine gb_iload_n d_X11_mostOf_6 rfl ?_
  refine gb_iadd d_X11_mostOf_7 ?_
  obtain ⟨hi1, h⟩ := gb_ck_e h
  refine gb_iald_ ((16 + x1).toNatClampNeg) rfl (hS 79 _ rfl) hi1 d_X11_mostOf_8 ?_
  refine gb_iconst 1 d_X11_mostOf_9 rfl ?_
  refine gb_icmp_eq 21 d_X11_mostOf_10 (by decide) (fun hc => ?_) (fun hc => ?_)
  · have h := gb_it hc h
    refine gb_iconst 0 d_X11_mostOf_21 rfl ?_
    refine gb_goto 27 d_X11_mostOf_22 (by decide) ?_
    cases h
    exact gb_iret d_X11_mostOf_27 rfl ⟨rfl, rfl, rfl⟩
  · have h := gb_if hc h
    refine gb_aload_n d_X11_mostOf_13 rfl ?_
    refine gb_iload_n d_X11_mostOf_14 rfl ?_
    obtain ⟨r2, e3, h⟩ := gb_bd_e h
    refine gb_cVi (As := [.int x1]) (rest := []) m_X11_198 (t_X11_isBarred (Γ := Γ) hS e3) (hS 77 _ rfl) rfl (Nat.le_of_ble_eq_true rfl) rfl rfl (Nat.le_of_ble_eq_true rfl) d_X11_mostOf_15 ?_
    refine gb_if_eq 25 d_X11_mostOf_18 (by decide) (fun hc => ?_) (fun hc => ?_)
    · have h := gb_it hc h
      refine gb_bipush 9 d_X11_mostOf_25 rfl ?_
      cases h
      exact gb_iret d_X11_mostOf_27 rfl ⟨rfl, rfl, rfl⟩
    · have h := gb_if hc h
      refine gb_iconst 0 d_X11_mostOf_21 rfl ?_
      refine gb_goto 27 d_X11_mostOf_22 (by decide) ?_
      cases h
      exact gb_iret d_X11_mostOf_27 rfl ⟨rfl, rfl, rfl⟩
-- X11_glad
noncomputable def f_X11_glad_196 (sh : List gb_Sh) (g : gb_G) (y1 : Int32) : Option (gb_G × Int32) := gb_ck y1 900 (if (g.1 98 y1.toNatClampNeg) = 100000000 then (some (g, (-1))) else (gb_ck y1 900 (some (g, (g.1 98 y1.toNatClampNeg)))))
noncomputable def f_X11_glad_294 (sh : List gb_Sh) (K228 : gb_G → Int32 → Int32 → Int32 → Int32 → Option (gb_G × Int32)) (g : gb_G) (y2 : Int32) (y5 : Int32) (y6 : Int32) (z0 : Int32) : Option (gb_G × Int32) := K228 g y2 z0 y5 (y6 + 1)
noncomputable def f_X11_glad_237 (sh : List gb_Sh) (K228 : gb_G → Int32 → Int32 → Int32 → Int32 → Option (gb_G × Int32)) : Nat → gb_G → Int32 → Int32 → Int32 → Int32 → Option (gb_G × Int32)
  | 0, _, _, _, _, _ => none
  | n + 1, g, y2, y4, y5, y6 => gb_bd (f_X11_leastBy sh g y6 y4 y5) (fun r9 => gb_ck ((100 * y6) + y4) 900 (if r9.2 = (r9.1.1 98 (((100 * y6) + y4).toNatClampNeg)) then (gb_bd (f_X11_gladsOf sh r9.1 y6) (fun r12 => if 0 ≤ (y4 - (y5 * r12.2)) then (f_X11_glad_294 sh K228 r12.1 y2 y5 y6 (y4 - (y5 * r12.2))) else (f_X11_glad_294 sh K228 r12.1 y2 y5 y6 0))) else (f_X11_glad_237 sh K228 n r9.1 y2 y4 (y5 + 1) y6)))
noncomputable def f_X11_glad_228 (sh : List gb_Sh) : Nat → gb_G → Int32 → Int32 → Int32 → Int32 → Option (gb_G × Int32)
  | 0, _, _, _, _, _ => none
  | n + 1, g, y2, y4, y5, y6 => if y2 ≤ y6 then (some (g, y5)) else (f_X11_glad_237 sh (fun w w0 w1 w2 w3 => f_X11_glad_228 sh n w w0 w1 w2 w3) gb_N g y2 y4 0 y6)
noncomputable def f_X11_glad_145 (sh : List gb_Sh) (K112 : gb_G → Int32 → Int32 → Int32 → Int32 → Int32 → Int32 → Int32 → Option (gb_G × Int32)) (g : gb_G) (y1 : Int32) (y2 : Int32) (y4 : Int32) (y5 : Int32) (y6 : Int32) (y8 : Int32) (z0 : Int32) : Option (gb_G × Int32) := K112 g y1 y2 y4 y5 y6 z0 (y8 + 1)
noncomputable def f_X11_glad_112 (sh : List gb_Sh) (K98 : gb_G → Int32 → Int32 → Int32 → Int32 → Int32 → Option (gb_G × Int32)) : Nat → gb_G → Int32 → Int32 → Int32 → Int32 → Int32 → Int32 → Int32 → Option (gb_G × Int32)
  | 0, _, _, _, _, _, _, _, _ => none
  | n + 1, g, y1, y2, y4, y5, y6, y7, y8 => if y5 < y8 then (gb_ck ((100 * y4) + y6) 900 (gb_let (gb_pi g 98 (((100 * y4) + y6).toNatClampNeg) y7) (fun g17 => K98 g17 y1 y2 y4 y5 (y6 + 1)))) else (gb_bd (f_X11_leastBy sh g y4 y6 y8) (fun r18 => if y7 ≤ r18.2 then (f_X11_glad_145 sh (fun w w0 w1 w2 w3 w4 w5 w6 => f_X11_glad_112 sh K98 n w w0 w1 w2 w3 w4 w5 w6) r18.1 y1 y2 y4 y5 y6 y8 y7) else (f_X11_glad_145 sh (fun w w0 w1 w2 w3 w4 w5 w6 => f_X11_glad_112 sh K98 n w w0 w1 w2 w3 w4 w5 w6) r18.1 y1 y2 y4 y5 y6 y8 r18.2)))
noncomputable def f_X11_glad_98 (sh : List gb_Sh) (K82 : gb_G → Int32 → Int32 → Int32 → Option (gb_G × Int32)) : Nat → gb_G → Int32 → Int32 → Int32 → Int32 → Int32 → Option (gb_G × Int32)
  | 0, _, _, _, _, _, _ => none
  | n + 1, g, y1, y2, y4, y5, y6 => if y1 < y6 then (K82 g y1 y2 (y4 + (-1))) else (f_X11_glad_112 sh (fun w w0 w1 w2 w3 w4 => f_X11_glad_98 sh K82 n w w0 w1 w2 w3 w4) gb_N g y1 y2 y4 y5 y6 100000000 0)
noncomputable def f_X11_glad_82 (sh : List gb_Sh) : Nat → gb_G → Int32 → Int32 → Int32 → Option (gb_G × Int32)
  | 0, _, _, _, _ => none
  | n + 1, g, y1, y2, y4 => if y4 < 0 then (gb_ck y1 900 (if (g.1 98 y1.toNatClampNeg) = 100000000 then (f_X11_glad_196 sh g y1) else (if y2 = 0 then (f_X11_glad_196 sh g y1) else (f_X11_glad_228 sh gb_N g y2 y1 0 0)))) else (gb_bd (f_X11_mostOf sh g y4) (fun r14 => f_X11_glad_98 sh (fun w w0 w1 w2 => f_X11_glad_82 sh n w w0 w1 w2) gb_N r14.1 y1 y2 y4 r14.2 0))
noncomputable def f_X11_glad_70 (sh : List gb_Sh) (K40 : gb_G → Int32 → Int32 → Int32 → Int32 → Option (gb_G × Int32)) (g : gb_G) (y1 : Int32) (y2 : Int32) (y3 : Int32) (y4 : Int32) (z0 : Int32) (z1 : Int32) : Option (gb_G × Int32) := gb_ck z1 900 (gb_let (gb_pi g 98 z1.toNatClampNeg z0) (fun g21 => K40 g21 y1 y2 y3 (y4 + 1)))
noncomputable def f_X11_glad_40 (sh : List gb_Sh) : Nat → gb_G → Int32 → Int32 → Int32 → Int32 → Option (gb_G × Int32)
  | 0, _, _, _, _, _ => none
  | n + 1, g, y1, y2, y3, y4 => if 100 ≤ y4 then (f_X11_glad_82 sh gb_N g y1 y2 (y3 - 1)) else (if y4 = 0 then (f_X11_glad_70 sh (fun w w0 w1 w2 w3 => f_X11_glad_40 sh n w w0 w1 w2 w3) g y1 y2 y3 y4 0 ((100 * y3) + y4)) else (f_X11_glad_70 sh (fun w w0 w1 w2 w3 => f_X11_glad_40 sh n w w0 w1 w2 w3) g y1 y2 y3 y4 100000000 ((100 * y3) + y4)))
noncomputable def f_X11_glad (sh : List gb_Sh) (g : gb_G) (x1 : Int32) (x2 : Int32) : Option (gb_G × Int32) := gb_let (gb_pi g 77 0 0) (fun g1 => gb_bd (f_X11_in sh g1 x1.toInt64 0 99) (fun r2 => if r2.2 = 0 then (some (r2.1, (-1))) else (gb_bd (f_X11_in sh r2.1 x2.toInt64 0 ((g1.1 79 0).toInt64)) (fun r4 => if r4.2 = 0 then (some (r4.1, (-1))) else (f_X11_glad_40 sh gb_N r4.1 x1 x2 (g1.1 79 0) 0)))))
set_option maxRecDepth 100000 in
set_option maxHeartbeats 4000000 in
theorem t_X11_glad_196 {Γ : gb_X} {sh : List gb_Sh} {out : gb_G × Int32} (hS : gb_S sh) : ∀ (g : gb_G) (y1 : Int32), f_X11_glad_196 sh g y1 = some out → gb_J Γ M_X11_glad 7 (gb_Ri sh out) 0 0 sh g 196 [(0, .ref 77), (1, .int y1)] [] := by
  intro g y1 h
  unfold f_X11_glad_196 at h
  refine gb_aload_n d_X11_glad_196 rfl ?_
  refine gb_getr (r := 98) f_X11_110 (hS 77 _ rfl) rfl d_X11_glad_197 ?_
  refine gb_iload_n d_X11_glad_200 rfl ?_
  obtain ⟨hi7, h⟩ := gb_ck_e h
  refine gb_iald_ y1.toNatClampNeg rfl (hS 98 _ rfl) hi7 d_X11_glad_201 ?_
  refine gb_ldcw 100000000 k_X11_461 d_X11_glad_202 ?_
  refine gb_icmp_ne 212 d_X11_glad_205 (by decide) (fun hc => ?_) (fun hc => ?_)
  · have h := gb_if hc h
    refine gb_aload_n d_X11_glad_212 rfl ?_
    refine gb_getr (r := 98) f_X11_110 (hS 77 _ rfl) rfl d_X11_glad_213 ?_
    refine gb_iload_n d_X11_glad_216 rfl ?_
    obtain ⟨hi8, h⟩ := gb_ck_e h
    refine gb_iald_ y1.toNatClampNeg rfl (hS 98 _ rfl) hi8 d_X11_glad_217 ?_
    cases h
    exact gb_iret d_X11_glad_218 rfl ⟨rfl, rfl, rfl⟩
  · have h := gb_it hc h
    refine gb_iconst (-1) d_X11_glad_208 rfl ?_
    refine gb_goto 218 d_X11_glad_209 (by decide) ?_
    cases h
    exact gb_iret d_X11_glad_218 rfl ⟨rfl, rfl, rfl⟩
set_option maxRecDepth 100000 in
set_option maxHeartbeats 4000000 in
theorem t_X11_glad_294 {Γ : gb_X} {sh : List gb_Sh} {out : gb_G × Int32} (hS : gb_S sh) {K228 : gb_G → Int32 → Int32 → Int32 → Int32 → Option (gb_G × Int32)} (hK228 : ∀ (g : gb_G) (y2 : Int32) (y4 : Int32) (y5 : Int32) (y6 : Int32), K228 g y2 y4 y5 y6 = some out → gb_J Γ M_X11_glad 7 (gb_Ri sh out) 0 0 sh g 228 [(0, .ref 77), (2, .int y2), (4, .int y4), (5, .int y5), (6, .int y6)] []) : ∀ (g : gb_G) (y2 : Int32) (y5 : Int32) (y6 : Int32) (z0 : Int32), f_X11_glad_294 sh K228 g y2 y5 y6 z0 = some out → gb_J Γ M_X11_glad 7 (gb_Ri sh out) 0 0 sh g 294 [(0, .ref 77), (2, .int y2), (5, .int y5), (6, .int y6)] [.int z0] := by
  intro g y2 y5 y6 z0 h
  unfold f_X11_glad_294 at h
  refine gb_istore [(4, .int z0), (0, .ref 77), (2, .int y2), (5, .int y5), (6, .int y6)] d_X11_glad_294 (Nat.le_of_ble_eq_true rfl) rfl ?_
  refine gb_iinc (y6 + 1) [(6, .int (y6 + 1)), (4, .int z0), (0, .ref 77), (2, .int y2), (5, .int y5)] d_X11_glad_296 (Nat.le_of_ble_eq_true rfl) rfl rfl rfl ?_
  refine gb_goto 228 d_X11_glad_299 (by decide) ?_
  refine gb_pick (lv' := [(0, .ref 77), (2, .int y2), (4, .int z0), (5, .int y5), (6, .int (y6 + 1))]) [2, 3, 1, 4, 0] rfl ?_
  exact hK228 _ y2 z0 y5 (y6 + 1) h
set_option maxRecDepth 100000 in
set_option maxHeartbeats 4000000 in
theorem t_X11_glad_237 {Γ : gb_X} {sh : List gb_Sh} {out : gb_G × Int32} (hS : gb_S sh) {K228 : gb_G → Int32 → Int32 → Int32 → Int32 → Option (gb_G × Int32)} (hK228 : ∀ (g : gb_G) (y2 : Int32) (y4 : Int32) (y5 : Int32) (y6 : Int32), K228 g y2 y4 y5 y6 = some out → gb_J Γ M_X11_glad 7 (gb_Ri sh out) 0 0 sh g 228 [(0, .ref 77), (2, .int y2), (4, .int y4), (5, .int y5), (6, .int y6)] []) : ∀ (n : Nat) (g : gb_G) (y2 : Int32) (y4 : Int32) (y5 : Int32) (y6 : Int32), f_X11_glad_237 sh K228 n g y2 y4 y5 y6 = some out → gb_J Γ M_X11_glad 7 (gb_Ri sh out) 0 0 sh g 237 [(0, .ref 77), (2, .int y2), (4, .int y4), (5, .int y5), (6, .int y6)] [] := by
  intro n
  induction n with
  | zero => intro g y2 y4 y5 y6 h; cases h
  | succ n ih =>
    intro g y2 y4 y5 y6 h
    rw [f_X11_glad_237] at h
    refine gb_aload_n d_X11_glad_237 rfl ?_
    refine gb_iload d_X11_glad_238 rfl ?_
    refine gb_iload d_X11_glad_240 rfl ?_
    refine gb_iload d_X11_glad_242 rfl ?_
    obtain ⟨r9, e10, h⟩ := gb_bd_e h
    refine gb_cVi (As := [.int y6, .int y4, .int y5]) (rest := []) m_X11_465 (t_X11_leastBy (Γ := Γ) hS e10) (hS 77 _ rfl) rfl (Nat.le_of_ble_eq_true rfl) rfl rfl (Nat.le_of_ble_eq_true rfl) d_X11_glad_244 ?_
    refine gb_aload_n d_X11_glad_247 rfl ?_
    refine gb_getr (r := 98) f_X11_110 (hS 77 _ rfl) rfl d_X11_glad_248 ?_
    refine gb_bipush 100 d_X11_glad_251 rfl ?_
    refine gb_iload d_X11_glad_253 rfl ?_
    refine gb_imul d_X11_glad_255 ?_
    refine gb_iload d_X11_glad_256 rfl ?_
    refine gb_iadd d_X11_glad_258 ?_
    obtain ⟨hi11, h⟩ := gb_ck_e h
    refine gb_iald_ (((100 * y6) + y4).toNatClampNeg) rfl (hS 98 _ rfl) hi11 d_X11_glad_259 ?_
    refine gb_icmp_eq 269 d_X11_glad_260 (by decide) (fun hc => ?_) (fun hc => ?_)
    · have h := gb_it hc h
      refine gb_iload d_X11_glad_269 rfl ?_
      refine gb_iload d_X11_glad_271 rfl ?_
      refine gb_aload_n d_X11_glad_273 rfl ?_
      refine gb_iload d_X11_glad_274 rfl ?_
      obtain ⟨r12, e13, h⟩ := gb_bd_e h
      refine gb_cVi (As := [.int y6]) (rest := [.int y5, .int y4]) m_X11_195 (t_X11_gladsOf (Γ := Γ) hS e13) (hS 77 _ rfl) rfl (Nat.le_of_ble_eq_true rfl) rfl rfl (Nat.le_of_ble_eq_true rfl) d_X11_glad_276 ?_
      refine gb_imul d_X11_glad_279 ?_
      refine gb_isub d_X11_glad_280 ?_
      refine gb_istore [(4, .int (y4 - (y5 * r12.2))), (0, .ref 77), (2, .int y2), (5, .int y5), (6, .int y6)] d_X11_glad_281 (Nat.le_of_ble_eq_true rfl) rfl ?_
      refine gb_iload d_X11_glad_283 rfl ?_
      refine gb_if_ge 292 d_X11_glad_285 (by decide) (fun hc => ?_) (fun hc => ?_)
      · have h := gb_it hc h
        refine gb_iload d_X11_glad_292 rfl ?_
        refine gb_pick (lv' := [(0, .ref 77), (2, .int y2), (5, .int y5), (6, .int y6)]) [1, 2, 3, 4] rfl ?_
        exact t_X11_glad_294 hS hK228 _ y2 y5 y6 (y4 - (y5 * r12.2)) h
      · have h := gb_if hc h
        refine gb_iconst 0 d_X11_glad_288 rfl ?_
        refine gb_goto 294 d_X11_glad_289 (by decide) ?_
        refine gb_pick (lv' := [(0, .ref 77), (2, .int y2), (5, .int y5), (6, .int y6)]) [1, 2, 3, 4] rfl ?_
        exact t_X11_glad_294 hS hK228 _ y2 y5 y6 0 h
    · have h := gb_if hc h
      refine gb_iinc (y5 + 1) [(5, .int (y5 + 1)), (0, .ref 77), (2, .int y2), (4, .int y4), (6, .int y6)] d_X11_glad_263 (Nat.le_of_ble_eq_true rfl) rfl rfl rfl ?_
      refine gb_goto 237 d_X11_glad_266 (by decide) ?_
      refine gb_pick (lv' := [(0, .ref 77), (2, .int y2), (4, .int y4), (5, .int (y5 + 1)), (6, .int y6)]) [1, 2, 3, 0, 4] rfl ?_
      exact ih _ y2 y4 (y5 + 1) y6 h
set_option maxRecDepth 100000 in
set_option maxHeartbeats 4000000 in
theorem t_X11_glad_228 {Γ : gb_X} {sh : List gb_Sh} {out : gb_G × Int32} (hS : gb_S sh) : ∀ (n : Nat) (g : gb_G) (y2 : Int32) (y4 : Int32) (y5 : Int32) (y6 : Int32), f_X11_glad_228 sh n g y2 y4 y5 y6 = some out → gb_J Γ M_X11_glad 7 (gb_Ri sh out) 0 0 sh g 228 [(0, .ref 77), (2, .int y2), (4, .int y4), (5, .int y5), (6, .int y6)] [] := by
  intro n
  induction n with
  | zero => intro g y2 y4 y5 y6 h; cases h
  | succ n ih =>
    intro g y2 y4 y5 y6 h
    rw [f_X11_glad_228] at h
    refine gb_iload d_X11_glad_228 rfl ?_
    refine gb_iload_n d_X11_glad_230 rfl ?_
    refine gb_icmp_ge 302 d_X11_glad_231 (by decide) (fun hc => ?_) (fun hc => ?_)
    · have h := gb_it hc h
      refine gb_iload d_X11_glad_302 rfl ?_
      cases h
      exact gb_iret d_X11_glad_304 rfl ⟨rfl, rfl, rfl⟩
    · have h := gb_if hc h
      refine gb_iconst 0 d_X11_glad_234 rfl ?_
      refine gb_istore [(5, .int 0), (0, .ref 77), (2, .int y2), (4, .int y4), (6, .int y6)] d_X11_glad_235 (Nat.le_of_ble_eq_true rfl) rfl ?_
      refine gb_pick (lv' := [(0, .ref 77), (2, .int y2), (4, .int y4), (5, .int 0), (6, .int y6)]) [1, 2, 3, 0, 4] rfl ?_
      exact t_X11_glad_237 hS (fun w w0 w1 w2 w3 hw => ih w w0 w1 w2 w3 hw) gb_N _ y2 y4 0 y6 h
set_option maxRecDepth 100000 in
set_option maxHeartbeats 4000000 in
theorem t_X11_glad_145 {Γ : gb_X} {sh : List gb_Sh} {out : gb_G × Int32} (hS : gb_S sh) {K112 : gb_G → Int32 → Int32 → Int32 → Int32 → Int32 → Int32 → Int32 → Option (gb_G × Int32)} (hK112 : ∀ (g : gb_G) (y1 : Int32) (y2 : Int32) (y4 : Int32) (y5 : Int32) (y6 : Int32) (y7 : Int32) (y8 : Int32), K112 g y1 y2 y4 y5 y6 y7 y8 = some out → gb_J Γ M_X11_glad 7 (gb_Ri sh out) 0 0 sh g 112 [(0, .ref 77), (1, .int y1), (2, .int y2), (4, .int y4), (5, .int y5), (6, .int y6), (7, .int y7), (8, .int y8)] []) : ∀ (g : gb_G) (y1 : Int32) (y2 : Int32) (y4 : Int32) (y5 : Int32) (y6 : Int32) (y8 : Int32) (z0 : Int32), f_X11_glad_145 sh K112 g y1 y2 y4 y5 y6 y8 z0 = some out → gb_J Γ M_X11_glad 7 (gb_Ri sh out) 0 0 sh g 145 [(0, .ref 77), (1, .int y1), (2, .int y2), (4, .int y4), (5, .int y5), (6, .int y6), (8, .int y8)] [.int z0] := by
  intro g y1 y2 y4 y5 y6 y8 z0 h
  unfold f_X11_glad_145 at h
  refine gb_istore [(7, .int z0), (0, .ref 77), (1, .int y1), (2, .int y2), (4, .int y4), (5, .int y5), (6, .int y6), (8, .int y8)] d_X11_glad_145 (Nat.le_of_ble_eq_true rfl) rfl ?_
  refine gb_iinc (y8 + 1) [(8, .int (y8 + 1)), (7, .int z0), (0, .ref 77), (1, .int y1), (2, .int y2), (4, .int y4), (5, .int y5), (6, .int y6)] d_X11_glad_147 (Nat.le_of_ble_eq_true rfl) rfl rfl rfl ?_
  refine gb_goto 112 d_X11_glad_150 (by decide) ?_
  refine gb_pick (lv' := [(0, .ref 77), (1, .int y1), (2, .int y2), (4, .int y4), (5, .int y5), (6, .int y6), (7, .int z0), (8, .int (y8 + 1))]) [2, 3, 4, 5, 6, 7, 1, 0] rfl ?_
  exact hK112 _ y1 y2 y4 y5 y6 z0 (y8 + 1) h
set_option maxRecDepth 100000 in
set_option maxHeartbeats 4000000 in
theorem t_X11_glad_112 {Γ : gb_X} {sh : List gb_Sh} {out : gb_G × Int32} (hS : gb_S sh) {K98 : gb_G → Int32 → Int32 → Int32 → Int32 → Int32 → Option (gb_G × Int32)} (hK98 : ∀ (g : gb_G) (y1 : Int32) (y2 : Int32) (y4 : Int32) (y5 : Int32) (y6 : Int32), K98 g y1 y2 y4 y5 y6 = some out → gb_J Γ M_X11_glad 7 (gb_Ri sh out) 0 0 sh g 98 [(0, .ref 77), (1, .int y1), (2, .int y2), (4, .int y4), (5, .int y5), (6, .int y6)] []) : ∀ (n : Nat) (g : gb_G) (y1 : Int32) (y2 : Int32) (y4 : Int32) (y5 : Int32) (y6 : Int32) (y7 : Int32) (y8 : Int32), f_X11_glad_112 sh K98 n g y1 y2 y4 y5 y6 y7 y8 = some out → gb_J Γ M_X11_glad 7 (gb_Ri sh out) 0 0 sh g 112 [(0, .ref 77), (1, .int y1), (2, .int y2), (4, .int y4), (5, .int y5), (6, .int y6), (7, .int y7), (8, .int y8)] [] := by
  intro n
  induction n with
  | zero => intro g y1 y2 y4 y5 y6 y7 y8 h; cases h
  | succ n ih =>
    intro g y1 y2 y4 y5 y6 y7 y8 h
    rw [f_X11_glad_112] at h
    refine gb_iload d_X11_glad_112 rfl ?_
    refine gb_iload d_X11_glad_114 rfl ?_
    refine gb_icmp_gt 153 d_X11_glad_116 (by decide) (fun hc => ?_) (fun hc => ?_)
    · have h := gb_it hc h
      refine gb_aload_n d_X11_glad_153 rfl ?_
      refine gb_getr (r := 98) f_X11_110 (hS 77 _ rfl) rfl d_X11_glad_154 ?_
      refine gb_bipush 100 d_X11_glad_157 rfl ?_
      refine gb_iload d_X11_glad_159 rfl ?_
      refine gb_imul d_X11_glad_161 ?_
      refine gb_iload d_X11_glad_162 rfl ?_
      refine gb_iadd d_X11_glad_164 ?_
      refine gb_iload d_X11_glad_165 rfl ?_
      obtain ⟨hi16, h⟩ := gb_ck_e h
      refine gb_iast_ (((100 * y4) + y6).toNatClampNeg) rfl (hS 98 _ rfl) hi16 d_X11_glad_167 ?_
      have h := gb_let_e h
      generalize gb_pi g 98 (((100 * y4) + y6).toNatClampNeg) y7 = g17 at h ⊢
      refine gb_iinc (y6 + 1) [(6, .int (y6 + 1)), (0, .ref 77), (1, .int y1), (2, .int y2), (4, .int y4), (5, .int y5), (7, .int y7), (8, .int y8)] d_X11_glad_168 (Nat.le_of_ble_eq_true rfl) rfl rfl rfl ?_
      refine gb_goto 98 d_X11_glad_171 (by decide) ?_
      refine gb_pick (lv' := [(0, .ref 77), (1, .int y1), (2, .int y2), (4, .int y4), (5, .int y5), (6, .int (y6 + 1))]) [1, 2, 3, 4, 5, 0] rfl ?_
      exact hK98 _ y1 y2 y4 y5 (y6 + 1) h
    · have h := gb_if hc h
      refine gb_aload_n d_X11_glad_119 rfl ?_
      refine gb_iload d_X11_glad_120 rfl ?_
      refine gb_iload d_X11_glad_122 rfl ?_
      refine gb_iload d_X11_glad_124 rfl ?_
      obtain ⟨r18, e19, h⟩ := gb_bd_e h
      refine gb_cVi (As := [.int y4, .int y6, .int y8]) (rest := []) m_X11_465 (t_X11_leastBy (Γ := Γ) hS e19) (hS 77 _ rfl) rfl (Nat.le_of_ble_eq_true rfl) rfl rfl (Nat.le_of_ble_eq_true rfl) d_X11_glad_126 ?_
      refine gb_istore [(9, .int r18.2), (0, .ref 77), (1, .int y1), (2, .int y2), (4, .int y4), (5, .int y5), (6, .int y6), (7, .int y7), (8, .int y8)] d_X11_glad_129 (Nat.le_of_ble_eq_true rfl) rfl ?_
      refine gb_iload d_X11_glad_131 rfl ?_
      refine gb_iload d_X11_glad_133 rfl ?_
      refine gb_icmp_ge 143 d_X11_glad_135 (by decide) (fun hc => ?_) (fun hc => ?_)
      · have h := gb_it hc h
        refine gb_iload d_X11_glad_143 rfl ?_
        refine gb_pick (lv' := [(0, .ref 77), (1, .int y1), (2, .int y2), (4, .int y4), (5, .int y5), (6, .int y6), (8, .int y8)]) [1, 2, 3, 4, 5, 6, 8] rfl ?_
        exact t_X11_glad_145 hS (fun w w0 w1 w2 w3 w4 w5 w6 hw => ih w w0 w1 w2 w3 w4 w5 w6 hw) _ y1 y2 y4 y5 y6 y8 y7 h
      · have h := gb_if hc h
        refine gb_iload d_X11_glad_138 rfl ?_
        refine gb_goto 145 d_X11_glad_140 (by decide) ?_
        refine gb_pick (lv' := [(0, .ref 77), (1, .int y1), (2, .int y2), (4, .int y4), (5, .int y5), (6, .int y6), (8, .int y8)]) [1, 2, 3, 4, 5, 6, 8] rfl ?_
        exact t_X11_glad_145 hS (fun w w0 w1 w2 w3 w4 w5 w6 hw => ih w w0 w1 w2 w3 w4 w5 w6 hw) _ y1 y2 y4 y5 y6 y8 r18.2 h
set_option maxRecDepth 100000 in
set_option maxHeartbeats 4000000 in
theorem t_X11_glad_98 {Γ : gb_X} {sh : List gb_Sh} {out : gb_G × Int32} (hS : gb_S sh) {K82 : gb_G → Int32 → Int32 → Int32 → Option (gb_G × Int32)} (hK82 : ∀ (g : gb_G) (y1 : Int32) (y2 : Int32) (y4 : Int32), K82 g y1 y2 y4 = some out → gb_J Γ M_X11_glad 7 (gb_Ri sh out) 0 0 sh g 82 [(0, .ref 77), (1, .int y1), (2, .int y2), (4, .int y4)] []) : ∀ (n : Nat) (g : gb_G) (y1 : Int32) (y2 : Int32) (y4 : Int32) (y5 : Int32) (y6 : Int32), f_X11_glad_98 sh K82 n g y1 y2 y4 y5 y6 = some out → gb_J Γ M_X11_glad 7 (gb_Ri sh out) 0 0 sh g 98 [(0, .ref 77), (1, .int y1), (2, .int y2), (4, .int y4), (5, .int y5), (6, .int y6)] [] := by
  intro n
  induction n with
  | zero => intro g y1 y2 y4 y5 y6 h; cases h
  | succ n ih =>
    intro g y1 y2 y4 y5 y6 h
    rw [f_X11_glad_98] at h
    refine gb_iload d_X11_glad_98 rfl ?_
    refine gb_iload_n d_X11_glad_100 rfl ?_
    refine gb_icmp_gt 174 d_X11_glad_101 (by decide) (fun hc => ?_) (fun hc => ?_)
    · have h := gb_it hc h
      refine gb_iinc (y4 + (-1)) [(4, .int (y4 + (-1))), (0, .ref 77), (1, .int y1), (2, .int y2), (5, .int y5), (6, .int y6)] d_X11_glad_174 (Nat.le_of_ble_eq_true rfl) rfl rfl rfl ?_
      refine gb_goto 82 d_X11_glad_177 (by decide) ?_
      refine gb_pick (lv' := [(0, .ref 77), (1, .int y1), (2, .int y2), (4, .int (y4 + (-1)))]) [1, 2, 3, 0] rfl ?_
      exact hK82 _ y1 y2 (y4 + (-1)) h
    · have h := gb_if hc h
      refine gb_ldcw 100000000 k_X11_461 d_X11_glad_104 ?_
      refine gb_istore [(7, .int 100000000), (0, .ref 77), (1, .int y1), (2, .int y2), (4, .int y4), (5, .int y5), (6, .int y6)] d_X11_glad_107 (Nat.le_of_ble_eq_true rfl) rfl ?_
      refine gb_iconst 0 d_X11_glad_109 rfl ?_
      refine gb_istore [(8, .int 0), (7, .int 100000000), (0, .ref 77), (1, .int y1), (2, .int y2), (4, .int y4), (5, .int y5), (6, .int y6)] d_X11_glad_110 (Nat.le_of_ble_eq_true rfl) rfl ?_
      refine gb_pick (lv' := [(0, .ref 77), (1, .int y1), (2, .int y2), (4, .int y4), (5, .int y5), (6, .int y6), (7, .int 100000000), (8, .int 0)]) [2, 3, 4, 5, 6, 7, 1, 0] rfl ?_
      exact t_X11_glad_112 hS (fun w w0 w1 w2 w3 w4 hw => ih w w0 w1 w2 w3 w4 hw) gb_N _ y1 y2 y4 y5 y6 100000000 0 h
set_option maxRecDepth 100000 in
set_option maxHeartbeats 4000000 in
theorem t_X11_glad_82 {Γ : gb_X} {sh : List gb_Sh} {out : gb_G × Int32} (hS : gb_S sh) : ∀ (n : Nat) (g : gb_G) (y1 : Int32) (y2 : Int32) (y4 : Int32), f_X11_glad_82 sh n g y1 y2 y4 = some out → gb_J Γ M_X11_glad 7 (gb_Ri sh out) 0 0 sh g 82 [(0, .ref 77), (1, .int y1), (2, .int y2), (4, .int y4)] [] := by
  intro n
  induction n with
  | zero => intro g y1 y2 y4 h; cases h
  | succ n ih =>
    intro g y1 y2 y4 h
    rw [f_X11_glad_82] at h
    refine gb_iload d_X11_glad_82 rfl ?_
    refine gb_if_lt 180 d_X11_glad_84 (by decide) (fun hc => ?_) (fun hc => ?_)
    · have h := gb_it hc h
      refine gb_aload_n d_X11_glad_180 rfl ?_
      refine gb_getr (r := 98) f_X11_110 (hS 77 _ rfl) rfl d_X11_glad_181 ?_
      refine gb_iload_n d_X11_glad_184 rfl ?_
      obtain ⟨hi6, h⟩ := gb_ck_e h
      refine gb_iald_ y1.toNatClampNeg rfl (hS 98 _ rfl) hi6 d_X11_glad_185 ?_
      refine gb_ldcw 100000000 k_X11_461 d_X11_glad_186 ?_
      refine gb_icmp_eq 196 d_X11_glad_189 (by decide) (fun hc => ?_) (fun hc => ?_)
      · have h := gb_it hc h
        refine gb_pick (lv' := [(0, .ref 77), (1, .int y1)]) [0, 1] rfl ?_
        exact t_X11_glad_196 hS  _ y1 h
      · have h := gb_if hc h
        refine gb_iload_n d_X11_glad_192 rfl ?_
        refine gb_if_ne 219 d_X11_glad_193 (by decide) (fun hc => ?_) (fun hc => ?_)
        · have h := gb_if hc h
          refine gb_iload_n d_X11_glad_219 rfl ?_
          refine gb_istore [(4, .int y1), (0, .ref 77), (1, .int y1), (2, .int y2)] d_X11_glad_220 (Nat.le_of_ble_eq_true rfl) rfl ?_
          refine gb_iconst 0 d_X11_glad_222 rfl ?_
          refine gb_istore [(5, .int 0), (4, .int y1), (0, .ref 77), (1, .int y1), (2, .int y2)] d_X11_glad_223 (Nat.le_of_ble_eq_true rfl) rfl ?_
          refine gb_iconst 0 d_X11_glad_225 rfl ?_
          refine gb_istore [(6, .int 0), (5, .int 0), (4, .int y1), (0, .ref 77), (1, .int y1), (2, .int y2)] d_X11_glad_226 (Nat.le_of_ble_eq_true rfl) rfl ?_
          refine gb_pick (lv' := [(0, .ref 77), (2, .int y2), (4, .int y1), (5, .int 0), (6, .int 0)]) [3, 5, 2, 1, 0] rfl ?_
          exact t_X11_glad_228 hS  gb_N _ y2 y1 0 0 h
        · have h := gb_it hc h
          refine gb_pick (lv' := [(0, .ref 77), (1, .int y1)]) [0, 1] rfl ?_
          exact t_X11_glad_196 hS  _ y1 h
    · have h := gb_if hc h
      refine gb_aload_n d_X11_glad_87 rfl ?_
      refine gb_iload d_X11_glad_88 rfl ?_
      obtain ⟨r14, e15, h⟩ := gb_bd_e h
      refine gb_cVi (As := [.int y4]) (rest := []) m_X11_462 (t_X11_mostOf (Γ := Γ) hS e15) (hS 77 _ rfl) rfl (Nat.le_of_ble_eq_true rfl) rfl rfl (Nat.le_of_ble_eq_true rfl) d_X11_glad_90 ?_
      refine gb_istore [(5, .int r14.2), (0, .ref 77), (1, .int y1), (2, .int y2), (4, .int y4)] d_X11_glad_93 (Nat.le_of_ble_eq_true rfl) rfl ?_
      refine gb_iconst 0 d_X11_glad_95 rfl ?_
      refine gb_istore [(6, .int 0), (5, .int r14.2), (0, .ref 77), (1, .int y1), (2, .int y2), (4, .int y4)] d_X11_glad_96 (Nat.le_of_ble_eq_true rfl) rfl ?_
      refine gb_pick (lv' := [(0, .ref 77), (1, .int y1), (2, .int y2), (4, .int y4), (5, .int r14.2), (6, .int 0)]) [2, 3, 4, 5, 1, 0] rfl ?_
      exact t_X11_glad_98 hS (fun w w0 w1 w2 hw => ih w w0 w1 w2 hw) gb_N _ y1 y2 y4 r14.2 0 h
set_option maxRecDepth 100000 in
set_option maxHeartbeats 4000000 in
theorem t_X11_glad_70 {Γ : gb_X} {sh : List gb_Sh} {out : gb_G × Int32} (hS : gb_S sh) {K40 : gb_G → Int32 → Int32 → Int32 → Int32 → Option (gb_G × Int32)} (hK40 : ∀ (g : gb_G) (y1 : Int32) (y2 : Int32) (y3 : Int32) (y4 : Int32), K40 g y1 y2 y3 y4 = some out → gb_J Γ M_X11_glad 7 (gb_Ri sh out) 0 0 sh g 40 [(0, .ref 77), (1, .int y1), (2, .int y2), (3, .int y3), (4, .int y4)] []) : ∀ (g : gb_G) (y1 : Int32) (y2 : Int32) (y3 : Int32) (y4 : Int32) (z0 : Int32) (z1 : Int32), f_X11_glad_70 sh K40 g y1 y2 y3 y4 z0 z1 = some out → gb_J Γ M_X11_glad 7 (gb_Ri sh out) 0 0 sh g 70 [(0, .ref 77), (1, .int y1), (2, .int y2), (3, .int y3), (4, .int y4)] [.int z0, .int z1, .ref 98] := by
  intro g y1 y2 y3 y4 z0 z1 h
  unfold f_X11_glad_70 at h
  obtain ⟨hi20, h⟩ := gb_ck_e h
  refine gb_iast_ z1.toNatClampNeg rfl (hS 98 _ rfl) hi20 d_X11_glad_70 ?_
  have h := gb_let_e h
  generalize gb_pi g 98 z1.toNatClampNeg z0 = g21 at h ⊢
  refine gb_iinc (y4 + 1) [(4, .int (y4 + 1)), (0, .ref 77), (1, .int y1), (2, .int y2), (3, .int y3)] d_X11_glad_71 (Nat.le_of_ble_eq_true rfl) rfl rfl rfl ?_
  refine gb_goto 40 d_X11_glad_74 (by decide) ?_
  refine gb_pick (lv' := [(0, .ref 77), (1, .int y1), (2, .int y2), (3, .int y3), (4, .int (y4 + 1))]) [1, 2, 3, 4, 0] rfl ?_
  exact hK40 _ y1 y2 y3 (y4 + 1) h
set_option maxRecDepth 100000 in
set_option maxHeartbeats 4000000 in
theorem t_X11_glad_40 {Γ : gb_X} {sh : List gb_Sh} {out : gb_G × Int32} (hS : gb_S sh) : ∀ (n : Nat) (g : gb_G) (y1 : Int32) (y2 : Int32) (y3 : Int32) (y4 : Int32), f_X11_glad_40 sh n g y1 y2 y3 y4 = some out → gb_J Γ M_X11_glad 7 (gb_Ri sh out) 0 0 sh g 40 [(0, .ref 77), (1, .int y1), (2, .int y2), (3, .int y3), (4, .int y4)] [] := by
  intro n
  induction n with
  | zero => intro g y1 y2 y3 y4 h; cases h
  | succ n ih =>
    intro g y1 y2 y3 y4 h
    rw [f_X11_glad_40] at h
    refine gb_iload d_X11_glad_40 rfl ?_
    refine gb_bipush 100 d_X11_glad_42 rfl ?_
    refine gb_icmp_ge 77 d_X11_glad_44 (by decide) (fun hc => ?_) (fun hc => ?_)
    · have h := gb_it hc h
      refine gb_iload_n d_X11_glad_77 rfl ?_
      refine gb_iconst 1 d_X11_glad_78 rfl ?_
      refine gb_isub d_X11_glad_79 ?_
      refine gb_istore [(4, .int (y3 - 1)), (0, .ref 77), (1, .int y1), (2, .int y2), (3, .int y3)] d_X11_glad_80 (Nat.le_of_ble_eq_true rfl) rfl ?_
      refine gb_pick (lv' := [(0, .ref 77), (1, .int y1), (2, .int y2), (4, .int (y3 - 1))]) [1, 2, 3, 0] rfl ?_
      exact t_X11_glad_82 hS  gb_N _ y1 y2 (y3 - 1) h
    · have h := gb_if hc h
      refine gb_aload_n d_X11_glad_47 rfl ?_
      refine gb_getr (r := 98) f_X11_110 (hS 77 _ rfl) rfl d_X11_glad_48 ?_
      refine gb_bipush 100 d_X11_glad_51 rfl ?_
      refine gb_iload_n d_X11_glad_53 rfl ?_
      refine gb_imul d_X11_glad_54 ?_
      refine gb_iload d_X11_glad_55 rfl ?_
      refine gb_iadd d_X11_glad_57 ?_
      refine gb_iload d_X11_glad_58 rfl ?_
      refine gb_if_ne 67 d_X11_glad_60 (by decide) (fun hc => ?_) (fun hc => ?_)
      · have h := gb_if hc h
        refine gb_ldcw 100000000 k_X11_461 d_X11_glad_67 ?_
        exact t_X11_glad_70 hS (fun w w0 w1 w2 w3 hw => ih w w0 w1 w2 w3 hw) _ y1 y2 y3 y4 100000000 ((100 * y3) + y4) h
      · have h := gb_it hc h
        refine gb_iconst 0 d_X11_glad_63 rfl ?_
        refine gb_goto 70 d_X11_glad_64 (by decide) ?_
        exact t_X11_glad_70 hS (fun w w0 w1 w2 w3 hw => ih w w0 w1 w2 w3 hw) _ y1 y2 y3 y4 0 ((100 * y3) + y4) h
set_option maxRecDepth 100000 in
set_option maxHeartbeats 4000000 in
theorem t_X11_glad {Γ : gb_X} {sh : List gb_Sh} {x1 : Int32} {x2 : Int32} {out : gb_G × Int32} (hS : gb_S sh) {g : gb_G} (h : f_X11_glad sh g x1 x2 = some out) : gb_C Γ M_X11_glad 7 0 0 sh g [.ref 77, .int x1, .int x2] (gb_Ri sh out) := by
  refine gb_C.of rfl (Nat.le_of_ble_eq_true rfl) ?_
  refine gb_pick (lv' := [(0, .ref 77), (1, .int x1), (2, .int x2)]) [0, 1, 2] rfl ?_
  unfold f_X11_glad at h
  refine gb_aload_n d_X11_glad_0 rfl ?_
  refine gb_iconst 0 d_X11_glad_1 rfl ?_
  refine gb_puti f_X11_145 (fun h => nomatch h) (hS 77 _ rfl) rfl rfl rfl d_X11_glad_2 ?_
  have h := gb_let_e h
  generalize gb_pi g 77 0 0 = g1 at h ⊢
  refine gb_aload_n d_X11_glad_5 rfl ?_
  refine gb_getr (r := 79) f_X11_13 (hS 77 _ rfl) rfl d_X11_glad_6 ?_
  refine gb_iconst 0 d_X11_glad_9 rfl ?_
  refine gb_iald_ 0 rfl (hS 79 _ rfl) (by unfold vp_in; decide) d_X11_glad_10 ?_
  refine gb_istore_n [(3, .int (g1.1 79 0)), (0, .ref 77), (1, .int x1), (2, .int x2)] d_X11_glad_11 (Nat.le_of_ble_eq_true rfl) rfl ?_
  refine gb_iload_n d_X11_glad_12 rfl ?_
  refine gb_i2l d_X11_glad_13 ?_
  refine gb_lconst 0 d_X11_glad_14 rfl ?_
  refine gb_ldc2 99 k_X11_174 d_X11_glad_15 ?_
  obtain ⟨r2, e3, h⟩ := gb_bd_e h
  refine gb_cSi (As := [.long x1.toInt64, .long 0, .long 99]) (rest := []) m_X11_165 (t_X11_in (Γ := Γ) hS e3) (Nat.le_of_ble_eq_true rfl) rfl rfl (Nat.le_of_ble_eq_true rfl) d_X11_glad_18 ?_
  refine gb_if_eq 35 d_X11_glad_21 (by decide) (fun hc => ?_) (fun hc => ?_)
  · have h := gb_it hc h
    refine gb_iconst (-1) d_X11_glad_35 rfl ?_
    cases h
    exact gb_iret d_X11_glad_36 rfl ⟨rfl, rfl, rfl⟩
  · have h := gb_if hc h
    refine gb_iload_n d_X11_glad_24 rfl ?_
    refine gb_i2l d_X11_glad_25 ?_
    refine gb_lconst 0 d_X11_glad_26 rfl ?_
    refine gb_iload_n d_X11_glad_27 rfl ?_
    refine gb_i2l d_X11_glad_28 ?_
    obtain ⟨r4, e5, h⟩ := gb_bd_e h
    refine gb_cSi (As := [.long x2.toInt64, .long 0, .long ((g1.1 79 0).toInt64)]) (rest := []) m_X11_165 (t_X11_in (Γ := Γ) hS e5) (Nat.le_of_ble_eq_true rfl) rfl rfl (Nat.le_of_ble_eq_true rfl) d_X11_glad_29 ?_
    refine gb_if_ne 37 d_X11_glad_32 (by decide) (fun hc => ?_) (fun hc => ?_)
    · have h := gb_if hc h
      refine gb_iconst 0 d_X11_glad_37 rfl ?_
      refine gb_istore [(4, .int 0), (3, .int (g1.1 79 0)), (0, .ref 77), (1, .int x1), (2, .int x2)] d_X11_glad_38 (Nat.le_of_ble_eq_true rfl) rfl ?_
      refine gb_pick (lv' := [(0, .ref 77), (1, .int x1), (2, .int x2), (3, .int (g1.1 79 0)), (4, .int 0)]) [2, 3, 4, 1, 0] rfl ?_
      exact t_X11_glad_40 hS  gb_N _ x1 x2 (g1.1 79 0) 0 h
    · have h := gb_it hc h
      refine gb_iconst (-1) d_X11_glad_35 rfl ?_
      cases h
      exact gb_iret d_X11_glad_36 rfl ⟨rfl, rfl, rfl⟩
-- X11_placeOf
noncomputable def f_X11_placeOf (sh : List gb_Sh) (g : gb_G) (x1 : Int32) : Option (gb_G × Int32) := gb_bd (f_X11_pricedBy sh g x1) (fun r1 => gb_ck (48 + r1.2) 5520 (some (r1.1, (r1.1.1 79 ((48 + r1.2).toNatClampNeg)))))
set_option maxRecDepth 100000 in
set_option maxHeartbeats 4000000 in
theorem t_X11_placeOf {Γ : gb_X} {sh : List gb_Sh} {x1 : Int32} {out : gb_G × Int32} (hS : gb_S sh) {g : gb_G} (h : f_X11_placeOf sh g x1 = some out) : gb_C Γ M_X11_placeOf 1 0 0 sh g [.ref 77, .int x1] (gb_Ri sh out) := by
  refine gb_C.of rfl (Nat.le_of_ble_eq_true rfl) ?_
  refine gb_pick (lv' := [(0, .ref 77), (1, .int x1)]) [0, 1] rfl ?_
  unfold f_X11_placeOf at h
  refine gb_aload_n d_X11_placeOf_0 rfl ?_
  refine gb_getr (r := 79) f_X11_13 (hS 77 _ rfl) rfl d_X11_placeOf_1 ?_
  refine gb_bipush 48 d_X11_placeOf_4 rfl ?_
  refine gb_aload_n d_X11_placeOf_6 rfl ?_
  refine gb_iload_n d_X11_placeOf_7 rfl ?_
  obtain ⟨r1, e2, h⟩ := gb_bd_e h
  refine gb_cVi (As := [.int x1]) (rest := [.int 48, .ref 79]) m_X11_438 (t_X11_pricedBy (Γ := Γ) hS e2) (hS 77 _ rfl) rfl (Nat.le_of_ble_eq_true rfl) rfl rfl (Nat.le_of_ble_eq_true rfl) d_X11_placeOf_8 ?_
  refine gb_iadd d_X11_placeOf_11 ?_
  obtain ⟨hi3, h⟩ := gb_ck_e h
  refine gb_iald_ ((48 + r1.2).toNatClampNeg) rfl (hS 79 _ rfl) hi3 d_X11_placeOf_12 ?_
  cases h
  exact gb_iret d_X11_placeOf_13 rfl ⟨rfl, rfl, rfl⟩
