def gi_X0_init (c : Nat) (g : gb_G) : gb_G := gb_let (gb_pi g (c + 0) 0 0) (fun g1 => gb_let (gb_z g1 (c + 1)) (fun g2 => gb_let (gb_pi g2 (c + 0) 2 0) (fun g3 => gb_let (gb_z g3 (c + 2)) (fun g4 => gb_let (gb_pi g4 (c + 0) 4 0) (fun g5 => gb_let (gb_z g5 (c + 3)) (fun g6 => gb_let (gb_z g6 (c + 4)) (fun g7 => gb_let (gb_pi g7 (c + 4) 0 0) (fun g8 => gb_let (gb_pi g8 (c + 4) 1 3) (fun g9 => gb_let (gb_pi g9 (c + 4) 2 0) (fun g10 => gb_let (gb_pi g10 (c + 0) 7 0) (fun g11 => gb_let (gb_z g11 (c + 5)) (fun g12 => gb_let (gb_pi g12 (c + 0) 9 (-1)) (fun g13 => g13)))))))))))))
def gl_X0_init (c : Nat) : List gb_Sh := [.inr (0, [0, (c + 1) + 3, 0, (c + 2) + 3, 0, (c + 3) + 3, (c + 4) + 3, 0, (c + 5) + 3, 0]), .inl (0, 56), .inl (0, 40), .inl (0, 12), .inl (0, 3), .inl (3, 6)]
set_option maxRecDepth 100000 in
set_option maxHeartbeats 4000000 in
theorem ti_X0_init {Γ : gb_X} {sh pre : List gb_Sh} {g : gb_G} {c : Nat} (hc : pre.length = c) (hsh : sh = pre ++ [.inr (0, [0, 2, 0, 2, 0, 2, 2, 0, 2, 0])]) : gb_C Γ M_X0_init 1 5 117 sh g [.ref c] (gb_Rn (pre ++ gl_X0_init c) (gi_X0_init c g)) := by
  subst hsh
  refine gb_C.of rfl (Nat.le_of_ble_eq_true rfl) ?_
  refine gb_pick (lv' := [(0, .ref c)]) [0] rfl ?_
  refine gb_aload_n d_X0_init_0 rfl ?_
  refine gb_obj o_X0_3 wo_i wo_c (Nat.le_of_ble_eq_true rfl) (Nat.le_of_ble_eq_true rfl) d_X0_init_1 ?_
  refine gb_aload_n d_X0_init_4 rfl ?_
  refine gb_iconst 0 d_X0_init_5 rfl ?_
  refine gb_puti f_X0_9 (fun _ => ⟨rfl, rfl⟩) (gb_at (i := 0) hc rfl) rfl rfl rfl d_X0_init_6 ?_
  generalize hg1 : gb_pi g (c + 0) 0 0 = g1
  refine gb_aload_n d_X0_init_9 rfl ?_
  refine gb_bipush 56 d_X0_init_10 rfl ?_
  refine gb_newarrP (n := 1) (N := 56) hc rfl rfl (by decide) wa_0 (by decide) (by decide) (by decide) (Nat.le_of_ble_eq_true rfl) (Nat.le_of_ble_eq_true rfl) d_X0_init_12 ?_
  show gb_J Γ M_X0_init _ _ _ _ (pre ++ [.inr (0, [0, 2, 0, 2, 0, 2, 2, 0, 2, 0]), .inl (0, 56)]) _ _ _ _
  generalize hg2 : gb_z g1 (c + 1) = g2
  refine gb_putrP (i := 0) hc rfl f_X0_15 (fun _ => ⟨rfl, rfl⟩) (Nat.le_of_ble_eq_true rfl) (fun _ => rfl) (fun _ => rfl) d_X0_init_14 ?_
  show gb_J Γ M_X0_init _ _ _ _ (pre ++ [.inr (0, [0, (c + 1) + 3, 0, 2, 0, 2, 2, 0, 2, 0]), .inl (0, 56)]) _ _ _ _
  refine gb_aload_n d_X0_init_17 rfl ?_
  refine gb_iconst 0 d_X0_init_18 rfl ?_
  refine gb_puti f_X0_19 (fun _ => ⟨rfl, rfl⟩) (gb_at (i := 0) hc rfl) rfl rfl rfl d_X0_init_19 ?_
  generalize hg3 : gb_pi g2 (c + 0) 2 0 = g3
  refine gb_aload_n d_X0_init_22 rfl ?_
  refine gb_bipush 40 d_X0_init_23 rfl ?_
  refine gb_newarrP (n := 2) (N := 40) hc rfl rfl (by decide) wa_0 (by decide) (by decide) (by decide) (Nat.le_of_ble_eq_true rfl) (Nat.le_of_ble_eq_true rfl) d_X0_init_25 ?_
  show gb_J Γ M_X0_init _ _ _ _ (pre ++ [.inr (0, [0, (c + 1) + 3, 0, 2, 0, 2, 2, 0, 2, 0]), .inl (0, 56), .inl (0, 40)]) _ _ _ _
  generalize hg4 : gb_z g3 (c + 2) = g4
  refine gb_putrP (i := 0) hc rfl f_X0_22 (fun _ => ⟨rfl, rfl⟩) (Nat.le_of_ble_eq_true rfl) (fun _ => rfl) (fun _ => rfl) d_X0_init_27 ?_
  show gb_J Γ M_X0_init _ _ _ _ (pre ++ [.inr (0, [0, (c + 1) + 3, 0, (c + 2) + 3, 0, 2, 2, 0, 2, 0]), .inl (0, 56), .inl (0, 40)]) _ _ _ _
  refine gb_aload_n d_X0_init_30 rfl ?_
  refine gb_iconst 0 d_X0_init_31 rfl ?_
  refine gb_puti f_X0_25 (fun _ => ⟨rfl, rfl⟩) (gb_at (i := 0) hc rfl) rfl rfl rfl d_X0_init_32 ?_
  generalize hg5 : gb_pi g4 (c + 0) 4 0 = g5
  refine gb_aload_n d_X0_init_35 rfl ?_
  refine gb_bipush 12 d_X0_init_36 rfl ?_
  refine gb_newarrP (n := 3) (N := 12) hc rfl rfl (by decide) wa_0 (by decide) (by decide) (by decide) (Nat.le_of_ble_eq_true rfl) (Nat.le_of_ble_eq_true rfl) d_X0_init_38 ?_
  show gb_J Γ M_X0_init _ _ _ _ (pre ++ [.inr (0, [0, (c + 1) + 3, 0, (c + 2) + 3, 0, 2, 2, 0, 2, 0]), .inl (0, 56), .inl (0, 40), .inl (0, 12)]) _ _ _ _
  generalize hg6 : gb_z g5 (c + 3) = g6
  refine gb_putrP (i := 0) hc rfl f_X0_28 (fun _ => ⟨rfl, rfl⟩) (Nat.le_of_ble_eq_true rfl) (fun _ => rfl) (fun _ => rfl) d_X0_init_40 ?_
  show gb_J Γ M_X0_init _ _ _ _ (pre ++ [.inr (0, [0, (c + 1) + 3, 0, (c + 2) + 3, 0, (c + 3) + 3, 2, 0, 2, 0]), .inl (0, 56), .inl (0, 40), .inl (0, 12)]) _ _ _ _
  refine gb_aload_n d_X0_init_43 rfl ?_
  refine gb_iconst 3 d_X0_init_44 rfl ?_
  refine gb_newarrP (n := 4) (N := 3) hc rfl rfl (by decide) wa_0 (by decide) (by decide) (by decide) (Nat.le_of_ble_eq_true rfl) (Nat.le_of_ble_eq_true rfl) d_X0_init_45 ?_
  show gb_J Γ M_X0_init _ _ _ _ (pre ++ [.inr (0, [0, (c + 1) + 3, 0, (c + 2) + 3, 0, (c + 3) + 3, 2, 0, 2, 0]), .inl (0, 56), .inl (0, 40), .inl (0, 12), .inl (0, 3)]) _ _ _ _
  generalize hg7 : gb_z g6 (c + 4) = g7
  refine gb_dup d_X0_init_47 rfl ?_
  refine gb_iconst 0 d_X0_init_48 rfl ?_
  refine gb_iconst 0 d_X0_init_49 rfl ?_
  refine gb_iast_ 0 rfl (gb_at (i := 4) hc rfl) (by unfold vp_in; decide) d_X0_init_50 ?_
  generalize hg8 : gb_pi g7 (c + 4) 0 0 = g8
  refine gb_dup d_X0_init_51 rfl ?_
  refine gb_iconst 1 d_X0_init_52 rfl ?_
  refine gb_iconst 3 d_X0_init_53 rfl ?_
  refine gb_iast_ 1 rfl (gb_at (i := 4) hc rfl) (by unfold vp_in; decide) d_X0_init_54 ?_
  generalize hg9 : gb_pi g8 (c + 4) 1 3 = g9
  refine gb_dup d_X0_init_55 rfl ?_
  refine gb_iconst 2 d_X0_init_56 rfl ?_
  refine gb_iconst 0 d_X0_init_57 rfl ?_
  refine gb_iast_ 2 rfl (gb_at (i := 4) hc rfl) (by unfold vp_in; decide) d_X0_init_58 ?_
  generalize hg10 : gb_pi g9 (c + 4) 2 0 = g10
  refine gb_putrP (i := 0) hc rfl f_X0_31 (fun _ => ⟨rfl, rfl⟩) (Nat.le_of_ble_eq_true rfl) (fun _ => rfl) (fun _ => rfl) d_X0_init_59 ?_
  show gb_J Γ M_X0_init _ _ _ _ (pre ++ [.inr (0, [0, (c + 1) + 3, 0, (c + 2) + 3, 0, (c + 3) + 3, (c + 4) + 3, 0, 2, 0]), .inl (0, 56), .inl (0, 40), .inl (0, 12), .inl (0, 3)]) _ _ _ _
  refine gb_aload_n d_X0_init_62 rfl ?_
  refine gb_iconst 0 d_X0_init_63 rfl ?_
  refine gb_puti f_X0_34 (fun _ => ⟨rfl, rfl⟩) (gb_at (i := 0) hc rfl) rfl rfl rfl d_X0_init_64 ?_
  generalize hg11 : gb_pi g10 (c + 0) 7 0 = g11
  refine gb_aload_n d_X0_init_67 rfl ?_
  refine gb_bipush 6 d_X0_init_68 rfl ?_
  refine gb_anewP (t := 3) (n := 5) (N := 6) hc rfl rfl (by decide) na_X0_37 wa_3 (by decide) (by decide) (by decide) (Nat.le_of_ble_eq_true rfl) (Nat.le_of_ble_eq_true rfl) d_X0_init_70 ?_
  show gb_J Γ M_X0_init _ _ _ _ (pre ++ [.inr (0, [0, (c + 1) + 3, 0, (c + 2) + 3, 0, (c + 3) + 3, (c + 4) + 3, 0, 2, 0]), .inl (0, 56), .inl (0, 40), .inl (0, 12), .inl (0, 3), .inl (3, 6)]) _ _ _ _
  generalize hg12 : gb_z g11 (c + 5) = g12
  refine gb_putrP (i := 0) hc rfl f_X0_39 (fun _ => ⟨rfl, rfl⟩) (Nat.le_of_ble_eq_true rfl) (fun _ => rfl) (fun _ => rfl) d_X0_init_73 ?_
  show gb_J Γ M_X0_init _ _ _ _ (pre ++ [.inr (0, [0, (c + 1) + 3, 0, (c + 2) + 3, 0, (c + 3) + 3, (c + 4) + 3, 0, (c + 5) + 3, 0]), .inl (0, 56), .inl (0, 40), .inl (0, 12), .inl (0, 3), .inl (3, 6)]) _ _ _ _
  refine gb_aload_n d_X0_init_76 rfl ?_
  refine gb_iconst (-1) d_X0_init_77 rfl ?_
  refine gb_puti f_X0_43 (fun _ => ⟨rfl, rfl⟩) (gb_at (i := 0) hc rfl) rfl rfl rfl d_X0_init_78 ?_
  generalize hg13 : gb_pi g12 (c + 0) 9 (-1) = g13
  exact gb_vret d_X0_init_81 rfl ⟨rfl, by subst_vars; rfl, rfl⟩
def gi_X3_init (c : Nat) (g : gb_G) : gb_G := gb_let (gb_pi g (c + 0) 0 0) (fun g1 => gb_let (gb_z g1 (c + 1)) (fun g2 => gb_let (gb_z g2 (c + 2)) (fun g3 => gb_let (gb_z g3 (c + 3)) (fun g4 => gb_let (gb_z g4 (c + 4)) (fun g5 => g5)))))
def gl_X3_init (c : Nat) : List gb_Sh := [.inr (3, [0, (c + 1) + 3, (c + 2) + 3, (c + 3) + 3, (c + 4) + 3]), .inl (0, 16), .inl (0, 16), .inl (0, 16), .inl (0, 128)]
set_option maxRecDepth 100000 in
set_option maxHeartbeats 4000000 in
theorem ti_X3_init {Γ : gb_X} {sh pre : List gb_Sh} {g : gb_G} {c : Nat} (hc : pre.length = c) (hsh : sh = pre ++ [.inr (3, [0, 2, 2, 2, 2])]) : gb_C Γ M_X3_init 1 4 176 sh g [.ref c] (gb_Rn (pre ++ gl_X3_init c) (gi_X3_init c g)) := by
  subst hsh
  refine gb_C.of rfl (Nat.le_of_ble_eq_true rfl) ?_
  refine gb_pick (lv' := [(0, .ref c)]) [0] rfl ?_
  refine gb_aload_n d_X3_init_0 rfl ?_
  refine gb_obj o_X3_3 wo_i wo_c (Nat.le_of_ble_eq_true rfl) (Nat.le_of_ble_eq_true rfl) d_X3_init_1 ?_
  refine gb_aload_n d_X3_init_4 rfl ?_
  refine gb_iconst 0 d_X3_init_5 rfl ?_
  refine gb_puti f_X3_9 (fun _ => ⟨rfl, rfl⟩) (gb_at (i := 0) hc rfl) rfl rfl rfl d_X3_init_6 ?_
  generalize hg1 : gb_pi g (c + 0) 0 0 = g1
  refine gb_aload_n d_X3_init_9 rfl ?_
  refine gb_bipush 16 d_X3_init_10 rfl ?_
  refine gb_newarrP (n := 1) (N := 16) hc rfl rfl (by decide) wa_0 (by decide) (by decide) (by decide) (Nat.le_of_ble_eq_true rfl) (Nat.le_of_ble_eq_true rfl) d_X3_init_12 ?_
  show gb_J Γ M_X3_init _ _ _ _ (pre ++ [.inr (3, [0, 2, 2, 2, 2]), .inl (0, 16)]) _ _ _ _
  generalize hg2 : gb_z g1 (c + 1) = g2
  refine gb_putrP (i := 0) hc rfl f_X3_15 (fun _ => ⟨rfl, rfl⟩) (Nat.le_of_ble_eq_true rfl) (fun _ => rfl) (fun _ => rfl) d_X3_init_14 ?_
  show gb_J Γ M_X3_init _ _ _ _ (pre ++ [.inr (3, [0, (c + 1) + 3, 2, 2, 2]), .inl (0, 16)]) _ _ _ _
  refine gb_aload_n d_X3_init_17 rfl ?_
  refine gb_bipush 16 d_X3_init_18 rfl ?_
  refine gb_newarrP (n := 2) (N := 16) hc rfl rfl (by decide) wa_0 (by decide) (by decide) (by decide) (Nat.le_of_ble_eq_true rfl) (Nat.le_of_ble_eq_true rfl) d_X3_init_20 ?_
  show gb_J Γ M_X3_init _ _ _ _ (pre ++ [.inr (3, [0, (c + 1) + 3, 2, 2, 2]), .inl (0, 16), .inl (0, 16)]) _ _ _ _
  generalize hg3 : gb_z g2 (c + 2) = g3
  refine gb_putrP (i := 0) hc rfl f_X3_19 (fun _ => ⟨rfl, rfl⟩) (Nat.le_of_ble_eq_true rfl) (fun _ => rfl) (fun _ => rfl) d_X3_init_22 ?_
  show gb_J Γ M_X3_init _ _ _ _ (pre ++ [.inr (3, [0, (c + 1) + 3, (c + 2) + 3, 2, 2]), .inl (0, 16), .inl (0, 16)]) _ _ _ _
  refine gb_aload_n d_X3_init_25 rfl ?_
  refine gb_bipush 16 d_X3_init_26 rfl ?_
  refine gb_newarrP (n := 3) (N := 16) hc rfl rfl (by decide) wa_0 (by decide) (by decide) (by decide) (Nat.le_of_ble_eq_true rfl) (Nat.le_of_ble_eq_true rfl) d_X3_init_28 ?_
  show gb_J Γ M_X3_init _ _ _ _ (pre ++ [.inr (3, [0, (c + 1) + 3, (c + 2) + 3, 2, 2]), .inl (0, 16), .inl (0, 16), .inl (0, 16)]) _ _ _ _
  generalize hg4 : gb_z g3 (c + 3) = g4
  refine gb_putrP (i := 0) hc rfl f_X3_22 (fun _ => ⟨rfl, rfl⟩) (Nat.le_of_ble_eq_true rfl) (fun _ => rfl) (fun _ => rfl) d_X3_init_30 ?_
  show gb_J Γ M_X3_init _ _ _ _ (pre ++ [.inr (3, [0, (c + 1) + 3, (c + 2) + 3, (c + 3) + 3, 2]), .inl (0, 16), .inl (0, 16), .inl (0, 16)]) _ _ _ _
  refine gb_aload_n d_X3_init_33 rfl ?_
  refine gb_sipush 128 d_X3_init_34 rfl ?_
  refine gb_newarrP (n := 4) (N := 128) hc rfl rfl (by decide) wa_0 (by decide) (by decide) (by decide) (Nat.le_of_ble_eq_true rfl) (Nat.le_of_ble_eq_true rfl) d_X3_init_37 ?_
  show gb_J Γ M_X3_init _ _ _ _ (pre ++ [.inr (3, [0, (c + 1) + 3, (c + 2) + 3, (c + 3) + 3, 2]), .inl (0, 16), .inl (0, 16), .inl (0, 16), .inl (0, 128)]) _ _ _ _
  generalize hg5 : gb_z g4 (c + 4) = g5
  refine gb_putrP (i := 0) hc rfl f_X3_25 (fun _ => ⟨rfl, rfl⟩) (Nat.le_of_ble_eq_true rfl) (fun _ => rfl) (fun _ => rfl) d_X3_init_39 ?_
  show gb_J Γ M_X3_init _ _ _ _ (pre ++ [.inr (3, [0, (c + 1) + 3, (c + 2) + 3, (c + 3) + 3, (c + 4) + 3]), .inl (0, 16), .inl (0, 16), .inl (0, 16), .inl (0, 128)]) _ _ _ _
  exact gb_vret d_X3_init_42 rfl ⟨rfl, by subst_vars; rfl, rfl⟩
def gi_X9_init (c : Nat) (g : gb_G) : gb_G := gb_let (gb_z g (c + 1)) (fun g1 => gb_let (gb_pi g1 (c + 0) 1 0) (fun g2 => gb_let (gb_pi g2 (c + 0) 2 0) (fun g3 => gb_let (gb_pi g3 (c + 0) 3 0) (fun g4 => gb_let (gb_pi g4 (c + 0) 4 0) (fun g5 => g5)))))
def gl_X9_init (c : Nat) : List gb_Sh := [.inr (9, [(c + 1) + 3, 0, 0, 0, 0]), .inl (0, 400)]
set_option maxRecDepth 100000 in
set_option maxHeartbeats 4000000 in
theorem ti_X9_init {Γ : gb_X} {sh pre : List gb_Sh} {g : gb_G} {c : Nat} (hc : pre.length = c) (hsh : sh = pre ++ [.inr (9, [2, 0, 0, 0, 0])]) : gb_C Γ M_X9_init 1 1 400 sh g [.ref c] (gb_Rn (pre ++ gl_X9_init c) (gi_X9_init c g)) := by
  subst hsh
  refine gb_C.of rfl (Nat.le_of_ble_eq_true rfl) ?_
  refine gb_pick (lv' := [(0, .ref c)]) [0] rfl ?_
  refine gb_aload_n d_X9_init_0 rfl ?_
  refine gb_obj o_X9_3 wo_i wo_c (Nat.le_of_ble_eq_true rfl) (Nat.le_of_ble_eq_true rfl) d_X9_init_1 ?_
  refine gb_aload_n d_X9_init_4 rfl ?_
  refine gb_sipush 400 d_X9_init_5 rfl ?_
  refine gb_newarrP (n := 1) (N := 400) hc rfl rfl (by decide) wa_0 (by decide) (by decide) (by decide) (Nat.le_of_ble_eq_true rfl) (Nat.le_of_ble_eq_true rfl) d_X9_init_8 ?_
  show gb_J Γ M_X9_init _ _ _ _ (pre ++ [.inr (9, [2, 0, 0, 0, 0]), .inl (0, 400)]) _ _ _ _
  generalize hg1 : gb_z g (c + 1) = g1
  refine gb_putrP (i := 0) hc rfl f_X9_9 (fun _ => ⟨rfl, rfl⟩) (Nat.le_of_ble_eq_true rfl) (fun _ => rfl) (fun _ => rfl) d_X9_init_10 ?_
  show gb_J Γ M_X9_init _ _ _ _ (pre ++ [.inr (9, [(c + 1) + 3, 0, 0, 0, 0]), .inl (0, 400)]) _ _ _ _
  refine gb_aload_n d_X9_init_13 rfl ?_
  refine gb_iconst 0 d_X9_init_14 rfl ?_
  refine gb_puti f_X9_15 (fun _ => ⟨rfl, rfl⟩) (gb_at (i := 0) hc rfl) rfl rfl rfl d_X9_init_15 ?_
  generalize hg2 : gb_pi g1 (c + 0) 1 0 = g2
  refine gb_aload_n d_X9_init_18 rfl ?_
  refine gb_iconst 0 d_X9_init_19 rfl ?_
  refine gb_puti f_X9_19 (fun _ => ⟨rfl, rfl⟩) (gb_at (i := 0) hc rfl) rfl rfl rfl d_X9_init_20 ?_
  generalize hg3 : gb_pi g2 (c + 0) 2 0 = g3
  refine gb_aload_n d_X9_init_23 rfl ?_
  refine gb_iconst 0 d_X9_init_24 rfl ?_
  refine gb_puti f_X9_22 (fun _ => ⟨rfl, rfl⟩) (gb_at (i := 0) hc rfl) rfl rfl rfl d_X9_init_25 ?_
  generalize hg4 : gb_pi g3 (c + 0) 3 0 = g4
  refine gb_aload_n d_X9_init_28 rfl ?_
  refine gb_iconst 0 d_X9_init_29 rfl ?_
  refine gb_puti f_X9_25 (fun _ => ⟨rfl, rfl⟩) (gb_at (i := 0) hc rfl) rfl rfl rfl d_X9_init_30 ?_
  generalize hg5 : gb_pi g4 (c + 0) 4 0 = g5
  exact gb_vret d_X9_init_33 rfl ⟨rfl, by subst_vars; rfl, rfl⟩
def gi_X7_init (c : Nat) (g : gb_G) : gb_G := gb_let (gb_pi g (c + 0) 0 0) (fun g1 => gb_let (gb_pi g1 (c + 0) 3 0) (fun g2 => gb_let (gb_pi g2 (c + 0) 7 0) (fun g3 => gb_let (gb_z g3 (c + 1)) (fun g4 => gb_let (gb_z g4 (c + 2)) (fun g5 => gb_let (gb_z g5 (c + 3)) (fun g6 => gb_let (gb_z g6 (c + 4)) (fun g7 => gb_let (gb_z g7 (c + 5)) (fun g8 => g8))))))))
def gl_X7_init (c : Nat) : List gb_Sh := [.inr (7, [0, (c + 1) + 3, (c + 2) + 3, 0, (c + 3) + 3, (c + 4) + 3, (c + 5) + 3, 0]), .inl (0, 400), .inl (0, 400), .inl (0, 12), .inl (0, 12), .inl (0, 37)]
set_option maxRecDepth 100000 in
set_option maxHeartbeats 4000000 in
theorem ti_X7_init {Γ : gb_X} {sh pre : List gb_Sh} {g : gb_G} {c : Nat} (hc : pre.length = c) (hsh : sh = pre ++ [.inr (7, [0, 2, 2, 0, 2, 2, 2, 0])]) : gb_C Γ M_X7_init 1 5 861 sh g [.ref c] (gb_Rn (pre ++ gl_X7_init c) (gi_X7_init c g)) := by
  subst hsh
  refine gb_C.of rfl (Nat.le_of_ble_eq_true rfl) ?_
  refine gb_pick (lv' := [(0, .ref c)]) [0] rfl ?_
  refine gb_aload_n d_X7_init_0 rfl ?_
  refine gb_obj o_X7_3 wo_i wo_c (Nat.le_of_ble_eq_true rfl) (Nat.le_of_ble_eq_true rfl) d_X7_init_1 ?_
  refine gb_aload_n d_X7_init_4 rfl ?_
  refine gb_iconst 0 d_X7_init_5 rfl ?_
  refine gb_puti f_X7_9 (fun _ => ⟨rfl, rfl⟩) (gb_at (i := 0) hc rfl) rfl rfl rfl d_X7_init_6 ?_
  generalize hg1 : gb_pi g (c + 0) 0 0 = g1
  refine gb_aload_n d_X7_init_9 rfl ?_
  refine gb_iconst 0 d_X7_init_10 rfl ?_
  refine gb_puti f_X7_15 (fun _ => ⟨rfl, rfl⟩) (gb_at (i := 0) hc rfl) rfl rfl rfl d_X7_init_11 ?_
  generalize hg2 : gb_pi g1 (c + 0) 3 0 = g2
  refine gb_aload_n d_X7_init_14 rfl ?_
  refine gb_iconst 0 d_X7_init_15 rfl ?_
  refine gb_puti f_X7_18 (fun _ => ⟨rfl, rfl⟩) (gb_at (i := 0) hc rfl) rfl rfl rfl d_X7_init_16 ?_
  generalize hg3 : gb_pi g2 (c + 0) 7 0 = g3
  refine gb_aload_n d_X7_init_19 rfl ?_
  refine gb_sipush 400 d_X7_init_20 rfl ?_
  refine gb_newarrP (n := 1) (N := 400) hc rfl rfl (by decide) wa_0 (by decide) (by decide) (by decide) (Nat.le_of_ble_eq_true rfl) (Nat.le_of_ble_eq_true rfl) d_X7_init_23 ?_
  show gb_J Γ M_X7_init _ _ _ _ (pre ++ [.inr (7, [0, 2, 2, 0, 2, 2, 2, 0]), .inl (0, 400)]) _ _ _ _
  generalize hg4 : gb_z g3 (c + 1) = g4
  refine gb_putrP (i := 0) hc rfl f_X7_22 (fun _ => ⟨rfl, rfl⟩) (Nat.le_of_ble_eq_true rfl) (fun _ => rfl) (fun _ => rfl) d_X7_init_25 ?_
  show gb_J Γ M_X7_init _ _ _ _ (pre ++ [.inr (7, [0, (c + 1) + 3, 2, 0, 2, 2, 2, 0]), .inl (0, 400)]) _ _ _ _
  refine gb_aload_n d_X7_init_28 rfl ?_
  refine gb_sipush 400 d_X7_init_29 rfl ?_
  refine gb_newarrP (n := 2) (N := 400) hc rfl rfl (by decide) wa_0 (by decide) (by decide) (by decide) (Nat.le_of_ble_eq_true rfl) (Nat.le_of_ble_eq_true rfl) d_X7_init_32 ?_
  show gb_J Γ M_X7_init _ _ _ _ (pre ++ [.inr (7, [0, (c + 1) + 3, 2, 0, 2, 2, 2, 0]), .inl (0, 400), .inl (0, 400)]) _ _ _ _
  generalize hg5 : gb_z g4 (c + 2) = g5
  refine gb_putrP (i := 0) hc rfl f_X7_26 (fun _ => ⟨rfl, rfl⟩) (Nat.le_of_ble_eq_true rfl) (fun _ => rfl) (fun _ => rfl) d_X7_init_34 ?_
  show gb_J Γ M_X7_init _ _ _ _ (pre ++ [.inr (7, [0, (c + 1) + 3, (c + 2) + 3, 0, 2, 2, 2, 0]), .inl (0, 400), .inl (0, 400)]) _ _ _ _
  refine gb_aload_n d_X7_init_37 rfl ?_
  refine gb_bipush 12 d_X7_init_38 rfl ?_
  refine gb_newarrP (n := 3) (N := 12) hc rfl rfl (by decide) wa_0 (by decide) (by decide) (by decide) (Nat.le_of_ble_eq_true rfl) (Nat.le_of_ble_eq_true rfl) d_X7_init_40 ?_
  show gb_J Γ M_X7_init _ _ _ _ (pre ++ [.inr (7, [0, (c + 1) + 3, (c + 2) + 3, 0, 2, 2, 2, 0]), .inl (0, 400), .inl (0, 400), .inl (0, 12)]) _ _ _ _
  generalize hg6 : gb_z g5 (c + 3) = g6
  refine gb_putrP (i := 0) hc rfl f_X7_29 (fun _ => ⟨rfl, rfl⟩) (Nat.le_of_ble_eq_true rfl) (fun _ => rfl) (fun _ => rfl) d_X7_init_42 ?_
  show gb_J Γ M_X7_init _ _ _ _ (pre ++ [.inr (7, [0, (c + 1) + 3, (c + 2) + 3, 0, (c + 3) + 3, 2, 2, 0]), .inl (0, 400), .inl (0, 400), .inl (0, 12)]) _ _ _ _
  refine gb_aload_n d_X7_init_45 rfl ?_
  refine gb_bipush 12 d_X7_init_46 rfl ?_
  refine gb_newarrP (n := 4) (N := 12) hc rfl rfl (by decide) wa_0 (by decide) (by decide) (by decide) (Nat.le_of_ble_eq_true rfl) (Nat.le_of_ble_eq_true rfl) d_X7_init_48 ?_
  show gb_J Γ M_X7_init _ _ _ _ (pre ++ [.inr (7, [0, (c + 1) + 3, (c + 2) + 3, 0, (c + 3) + 3, 2, 2, 0]), .inl (0, 400), .inl (0, 400), .inl (0, 12), .inl (0, 12)]) _ _ _ _
  generalize hg7 : gb_z g6 (c + 4) = g7
  refine gb_putrP (i := 0) hc rfl f_X7_32 (fun _ => ⟨rfl, rfl⟩) (Nat.le_of_ble_eq_true rfl) (fun _ => rfl) (fun _ => rfl) d_X7_init_50 ?_
  show gb_J Γ M_X7_init _ _ _ _ (pre ++ [.inr (7, [0, (c + 1) + 3, (c + 2) + 3, 0, (c + 3) + 3, (c + 4) + 3, 2, 0]), .inl (0, 400), .inl (0, 400), .inl (0, 12), .inl (0, 12)]) _ _ _ _
  refine gb_aload_n d_X7_init_53 rfl ?_
  refine gb_bipush 37 d_X7_init_54 rfl ?_
  refine gb_newarrP (n := 5) (N := 37) hc rfl rfl (by decide) wa_0 (by decide) (by decide) (by decide) (Nat.le_of_ble_eq_true rfl) (Nat.le_of_ble_eq_true rfl) d_X7_init_56 ?_
  show gb_J Γ M_X7_init _ _ _ _ (pre ++ [.inr (7, [0, (c + 1) + 3, (c + 2) + 3, 0, (c + 3) + 3, (c + 4) + 3, 2, 0]), .inl (0, 400), .inl (0, 400), .inl (0, 12), .inl (0, 12), .inl (0, 37)]) _ _ _ _
  generalize hg8 : gb_z g7 (c + 5) = g8
  refine gb_putrP (i := 0) hc rfl f_X7_35 (fun _ => ⟨rfl, rfl⟩) (Nat.le_of_ble_eq_true rfl) (fun _ => rfl) (fun _ => rfl) d_X7_init_58 ?_
  show gb_J Γ M_X7_init _ _ _ _ (pre ++ [.inr (7, [0, (c + 1) + 3, (c + 2) + 3, 0, (c + 3) + 3, (c + 4) + 3, (c + 5) + 3, 0]), .inl (0, 400), .inl (0, 400), .inl (0, 12), .inl (0, 12), .inl (0, 37)]) _ _ _ _
  exact gb_vret d_X7_init_61 rfl ⟨rfl, by subst_vars; rfl, rfl⟩
def gi_X8_init (c : Nat) (g : gb_G) : gb_G := gb_let (gb_z g (c + 1)) (fun g1 => gb_let (gi_X7_init (c + 1) g1) (fun g2 => gb_let (gb_pi g2 (c + 0) 2 0) (fun g3 => gb_let (gb_pi g3 (c + 0) 3 0) (fun g4 => g4))))
def gl_X8_init (c : Nat) (b1 : Nat) : List gb_Sh := [.inr (8, [b1 + 3, (c + 1) + 3, 0, 0]), .inr (7, [0, (c + 2) + 3, (c + 3) + 3, 0, (c + 4) + 3, (c + 5) + 3, (c + 6) + 3, 0]), .inl (0, 400), .inl (0, 400), .inl (0, 12), .inl (0, 12), .inl (0, 37)]
set_option maxRecDepth 100000 in
set_option maxHeartbeats 4000000 in
theorem ti_X8_init {Γ : gb_X} {sh pre : List gb_Sh} {g : gb_G} {c : Nat} (b1 : Nat) (hc : pre.length = c) (hsh : sh = pre ++ [.inr (8, [2, 2, 0, 0])]) : gb_C Γ M_X8_init 2 6 869 sh g [.ref c, .ref b1] (gb_Rn (pre ++ gl_X8_init c b1) (gi_X8_init c g)) := by
  subst hsh
  refine gb_C.of rfl (Nat.le_of_ble_eq_true rfl) ?_
  refine gb_pick (lv' := [(0, .ref c), (1, .ref b1)]) [0, 1] rfl ?_
  refine gb_aload_n d_X8_init_0 rfl ?_
  refine gb_obj o_X8_3 wo_i wo_c (Nat.le_of_ble_eq_true rfl) (Nat.le_of_ble_eq_true rfl) d_X8_init_1 ?_
  refine gb_aload_n d_X8_init_4 rfl ?_
  refine gb_newP (n := 1) hc rfl n_X8_9 (Nat.le_of_ble_eq_true rfl) (Nat.le_of_ble_eq_true rfl) d_X8_init_5 ?_
  show gb_J Γ M_X8_init _ _ _ _ (pre ++ [.inr (8, [2, 2, 0, 0]), .inr (7, [0, 2, 2, 0, 2, 2, 2, 0])]) _ _ _ _
  generalize hg1 : gb_z g (c + 1) = g1
  refine gb_dup d_X8_init_8 rfl ?_
  refine gb_cIn (As := []) (rest := [.ref (c + 1), .ref c]) m_X8_11 (ti_X7_init (Γ := Γ) (pre := pre ++ [.inr (8, [2, 2, 0, 0])]) (c := c + 1)  (by rw [List.length_append, hc]; rfl) (by rw [List.append_assoc]; rfl)) (Nat.le_of_ble_eq_true rfl) (Nat.le_of_ble_eq_true rfl) (Nat.le_of_ble_eq_true rfl) rfl rfl (Nat.le_of_ble_eq_true rfl) d_X8_init_9 ?_
  rw [List.append_assoc]
  show gb_J Γ M_X8_init _ _ _ _ (pre ++ [.inr (8, [2, 2, 0, 0]), .inr (7, [0, (c + 2) + 3, (c + 3) + 3, 0, (c + 4) + 3, (c + 5) + 3, (c + 6) + 3, 0]), .inl (0, 400), .inl (0, 400), .inl (0, 12), .inl (0, 12), .inl (0, 37)]) _ _ _ _
  generalize hg2 : gi_X7_init (c + 1) g1 = g2
  refine gb_putrP (i := 0) hc rfl f_X8_12 (fun _ => ⟨rfl, rfl⟩) (Nat.le_of_ble_eq_true rfl) (fun _ => rfl) (fun _ => rfl) d_X8_init_12 ?_
  show gb_J Γ M_X8_init _ _ _ _ (pre ++ [.inr (8, [2, (c + 1) + 3, 0, 0]), .inr (7, [0, (c + 2) + 3, (c + 3) + 3, 0, (c + 4) + 3, (c + 5) + 3, (c + 6) + 3, 0]), .inl (0, 400), .inl (0, 400), .inl (0, 12), .inl (0, 12), .inl (0, 37)]) _ _ _ _
  refine gb_aload_n d_X8_init_15 rfl ?_
  refine gb_iconst 0 d_X8_init_16 rfl ?_
  refine gb_puti f_X8_18 (fun _ => ⟨rfl, rfl⟩) (gb_at (i := 0) hc rfl) rfl rfl rfl d_X8_init_17 ?_
  generalize hg3 : gb_pi g2 (c + 0) 2 0 = g3
  refine gb_aload_n d_X8_init_20 rfl ?_
  refine gb_iconst 0 d_X8_init_21 rfl ?_
  refine gb_puti f_X8_22 (fun _ => ⟨rfl, rfl⟩) (gb_at (i := 0) hc rfl) rfl rfl rfl d_X8_init_22 ?_
  generalize hg4 : gb_pi g3 (c + 0) 3 0 = g4
  refine gb_aload_n d_X8_init_25 rfl ?_
  refine gb_aload_n d_X8_init_26 rfl ?_
  refine gb_putrP (i := 0) hc rfl f_X8_26 (fun _ => ⟨rfl, rfl⟩) (Nat.le_of_ble_eq_true rfl) (fun _ => rfl) (fun _ => rfl) d_X8_init_27 ?_
  show gb_J Γ M_X8_init _ _ _ _ (pre ++ [.inr (8, [b1 + 3, (c + 1) + 3, 0, 0]), .inr (7, [0, (c + 2) + 3, (c + 3) + 3, 0, (c + 4) + 3, (c + 5) + 3, (c + 6) + 3, 0]), .inl (0, 400), .inl (0, 400), .inl (0, 12), .inl (0, 12), .inl (0, 37)]) _ _ _ _
  exact gb_vret d_X8_init_30 rfl ⟨rfl, by subst_vars; rfl, rfl⟩
def gi_X5_init (c : Nat) (g : gb_G) : gb_G := gb_let (gb_z g (c + 1)) (fun g1 => g1)
def gl_X5_init (c : Nat) : List gb_Sh := [.inr (5, [(c + 1) + 3]), .inl (0, 51)]
set_option maxRecDepth 100000 in
set_option maxHeartbeats 4000000 in
theorem ti_X5_init {Γ : gb_X} {sh pre : List gb_Sh} {g : gb_G} {c : Nat} (hc : pre.length = c) (hsh : sh = pre ++ [.inr (5, [2])]) : gb_C Γ M_X5_init 1 1 51 sh g [.ref c] (gb_Rn (pre ++ gl_X5_init c) (gi_X5_init c g)) := by
  subst hsh
  refine gb_C.of rfl (Nat.le_of_ble_eq_true rfl) ?_
  refine gb_pick (lv' := [(0, .ref c)]) [0] rfl ?_
  refine gb_aload_n d_X5_init_0 rfl ?_
  refine gb_obj o_X5_3 wo_i wo_c (Nat.le_of_ble_eq_true rfl) (Nat.le_of_ble_eq_true rfl) d_X5_init_1 ?_
  refine gb_aload_n d_X5_init_4 rfl ?_
  refine gb_bipush 51 d_X5_init_5 rfl ?_
  refine gb_newarrP (n := 1) (N := 51) hc rfl rfl (by decide) wa_0 (by decide) (by decide) (by decide) (Nat.le_of_ble_eq_true rfl) (Nat.le_of_ble_eq_true rfl) d_X5_init_7 ?_
  show gb_J Γ M_X5_init _ _ _ _ (pre ++ [.inr (5, [2]), .inl (0, 51)]) _ _ _ _
  generalize hg1 : gb_z g (c + 1) = g1
  refine gb_putrP (i := 0) hc rfl f_X5_9 (fun _ => ⟨rfl, rfl⟩) (Nat.le_of_ble_eq_true rfl) (fun _ => rfl) (fun _ => rfl) d_X5_init_9 ?_
  show gb_J Γ M_X5_init _ _ _ _ (pre ++ [.inr (5, [(c + 1) + 3]), .inl (0, 51)]) _ _ _ _
  exact gb_vret d_X5_init_12 rfl ⟨rfl, by subst_vars; rfl, rfl⟩
def gi_X4_init (c : Nat) (g : gb_G) : gb_G := gb_let (gb_z g (c + 1)) (fun g1 => gb_let (gb_z g1 (c + 2)) (fun g2 => g2))
def gl_X4_init (c : Nat) (b1 : Nat) : List gb_Sh := [.inr (4, [b1 + 3, (c + 1) + 3, (c + 2) + 3]), .inl (0, 9), .inl (0, 8)]
set_option maxRecDepth 100000 in
set_option maxHeartbeats 4000000 in
theorem ti_X4_init {Γ : gb_X} {sh pre : List gb_Sh} {g : gb_G} {c : Nat} (b1 : Nat) (hc : pre.length = c) (hsh : sh = pre ++ [.inr (4, [2, 2, 2])]) : gb_C Γ M_X4_init 1 2 17 sh g [.ref c, .ref b1] (gb_Rn (pre ++ gl_X4_init c b1) (gi_X4_init c g)) := by
  subst hsh
  refine gb_C.of rfl (Nat.le_of_ble_eq_true rfl) ?_
  refine gb_pick (lv' := [(0, .ref c), (1, .ref b1)]) [0, 1] rfl ?_
  refine gb_aload_n d_X4_init_0 rfl ?_
  refine gb_obj o_X4_3 wo_i wo_c (Nat.le_of_ble_eq_true rfl) (Nat.le_of_ble_eq_true rfl) d_X4_init_1 ?_
  refine gb_aload_n d_X4_init_4 rfl ?_
  refine gb_bipush 9 d_X4_init_5 rfl ?_
  refine gb_newarrP (n := 1) (N := 9) hc rfl rfl (by decide) wa_0 (by decide) (by decide) (by decide) (Nat.le_of_ble_eq_true rfl) (Nat.le_of_ble_eq_true rfl) d_X4_init_7 ?_
  show gb_J Γ M_X4_init _ _ _ _ (pre ++ [.inr (4, [2, 2, 2]), .inl (0, 9)]) _ _ _ _
  generalize hg1 : gb_z g (c + 1) = g1
  refine gb_putrP (i := 0) hc rfl f_X4_9 (fun _ => ⟨rfl, rfl⟩) (Nat.le_of_ble_eq_true rfl) (fun _ => rfl) (fun _ => rfl) d_X4_init_9 ?_
  show gb_J Γ M_X4_init _ _ _ _ (pre ++ [.inr (4, [2, (c + 1) + 3, 2]), .inl (0, 9)]) _ _ _ _
  refine gb_aload_n d_X4_init_12 rfl ?_
  refine gb_bipush 8 d_X4_init_13 rfl ?_
  refine gb_newarrP (n := 2) (N := 8) hc rfl rfl (by decide) wa_0 (by decide) (by decide) (by decide) (Nat.le_of_ble_eq_true rfl) (Nat.le_of_ble_eq_true rfl) d_X4_init_15 ?_
  show gb_J Γ M_X4_init _ _ _ _ (pre ++ [.inr (4, [2, (c + 1) + 3, 2]), .inl (0, 9), .inl (0, 8)]) _ _ _ _
  generalize hg2 : gb_z g1 (c + 2) = g2
  refine gb_putrP (i := 0) hc rfl f_X4_15 (fun _ => ⟨rfl, rfl⟩) (Nat.le_of_ble_eq_true rfl) (fun _ => rfl) (fun _ => rfl) d_X4_init_17 ?_
  show gb_J Γ M_X4_init _ _ _ _ (pre ++ [.inr (4, [2, (c + 1) + 3, (c + 2) + 3]), .inl (0, 9), .inl (0, 8)]) _ _ _ _
  refine gb_aload_n d_X4_init_20 rfl ?_
  refine gb_aload_n d_X4_init_21 rfl ?_
  refine gb_putrP (i := 0) hc rfl f_X4_18 (fun _ => ⟨rfl, rfl⟩) (Nat.le_of_ble_eq_true rfl) (fun _ => rfl) (fun _ => rfl) d_X4_init_22 ?_
  show gb_J Γ M_X4_init _ _ _ _ (pre ++ [.inr (4, [b1 + 3, (c + 1) + 3, (c + 2) + 3]), .inl (0, 9), .inl (0, 8)]) _ _ _ _
  exact gb_vret d_X4_init_25 rfl ⟨rfl, by subst_vars; rfl, rfl⟩
def gi_X2_init (c : Nat) (g : gb_G) : gb_G := gb_let (gb_pj g (c + 0) 0 0) (fun g1 => gb_let (gb_pj g1 (c + 0) 1 1) (fun g2 => g2))
def gl_X2_init (c : Nat) : List gb_Sh := [.inr (2, [1, 1])]
set_option maxRecDepth 100000 in
set_option maxHeartbeats 4000000 in
theorem ti_X2_init {Γ : gb_X} {sh pre : List gb_Sh} {g : gb_G} {c : Nat} (hc : pre.length = c) (hsh : sh = pre ++ [.inr (2, [1, 1])]) : gb_C Γ M_X2_init 1 0 0 sh g [.ref c] (gb_Rn (pre ++ gl_X2_init c) (gi_X2_init c g)) := by
  subst hsh
  refine gb_C.of rfl (Nat.le_of_ble_eq_true rfl) ?_
  refine gb_pick (lv' := [(0, .ref c)]) [0] rfl ?_
  refine gb_aload_n d_X2_init_0 rfl ?_
  refine gb_obj o_X2_1 wo_i wo_c (Nat.le_of_ble_eq_true rfl) (Nat.le_of_ble_eq_true rfl) d_X2_init_1 ?_
  refine gb_aload_n d_X2_init_4 rfl ?_
  refine gb_lconst 0 d_X2_init_5 rfl ?_
  refine gb_putl f_X2_7 (fun _ => ⟨rfl, rfl⟩) (gb_at (i := 0) hc rfl) rfl rfl rfl d_X2_init_6 ?_
  generalize hg1 : gb_pj g (c + 0) 0 0 = g1
  refine gb_aload_n d_X2_init_9 rfl ?_
  refine gb_lconst 1 d_X2_init_10 rfl ?_
  refine gb_putl f_X2_13 (fun _ => ⟨rfl, rfl⟩) (gb_at (i := 0) hc rfl) rfl rfl rfl d_X2_init_11 ?_
  generalize hg2 : gb_pj g1 (c + 0) 1 1 = g2
  exact gb_vret d_X2_init_14 rfl ⟨rfl, by subst_vars; rfl, rfl⟩
def gi_X1_init (c : Nat) (g : gb_G) : gb_G := gb_let (gb_pi g (c + 0) 1 0) (fun g1 => gb_let (gb_z g1 (c + 1)) (fun g2 => gb_let (gb_z g2 (c + 2)) (fun g3 => gb_let (gb_z g3 (c + 3)) (fun g4 => gb_let (gb_z g4 (c + 4)) (fun g5 => gb_let (gi_X2_init (c + 4) g5) (fun g6 => gb_let (gb_z g6 (c + 5)) (fun g7 => gb_let (gi_X2_init (c + 5) g7) (fun g8 => g8))))))))
def gl_X1_init (c : Nat) (b1 : Nat) : List gb_Sh := [.inr (1, [b1 + 3, 0, (c + 1) + 3, (c + 2) + 3, (c + 3) + 3, (c + 4) + 3, (c + 5) + 3]), .inl (0, 8), .inl (0, 8), .inl (0, 8), .inr (2, [1, 1]), .inr (2, [1, 1])]
set_option maxRecDepth 100000 in
set_option maxHeartbeats 4000000 in
theorem ti_X1_init {Γ : gb_X} {sh pre : List gb_Sh} {g : gb_G} {c : Nat} (b1 : Nat) (hc : pre.length = c) (hsh : sh = pre ++ [.inr (1, [2, 0, 2, 2, 2, 2, 2])]) : gb_C Γ M_X1_init 2 5 28 sh g [.ref c, .ref b1] (gb_Rn (pre ++ gl_X1_init c b1) (gi_X1_init c g)) := by
  subst hsh
  refine gb_C.of rfl (Nat.le_of_ble_eq_true rfl) ?_
  refine gb_pick (lv' := [(0, .ref c), (1, .ref b1)]) [0, 1] rfl ?_
  refine gb_aload_n d_X1_init_0 rfl ?_
  refine gb_obj o_X1_3 wo_i wo_c (Nat.le_of_ble_eq_true rfl) (Nat.le_of_ble_eq_true rfl) d_X1_init_1 ?_
  refine gb_aload_n d_X1_init_4 rfl ?_
  refine gb_iconst 0 d_X1_init_5 rfl ?_
  refine gb_puti f_X1_9 (fun _ => ⟨rfl, rfl⟩) (gb_at (i := 0) hc rfl) rfl rfl rfl d_X1_init_6 ?_
  generalize hg1 : gb_pi g (c + 0) 1 0 = g1
  refine gb_aload_n d_X1_init_9 rfl ?_
  refine gb_bipush 8 d_X1_init_10 rfl ?_
  refine gb_newarrP (n := 1) (N := 8) hc rfl rfl (by decide) wa_0 (by decide) (by decide) (by decide) (Nat.le_of_ble_eq_true rfl) (Nat.le_of_ble_eq_true rfl) d_X1_init_12 ?_
  show gb_J Γ M_X1_init _ _ _ _ (pre ++ [.inr (1, [2, 0, 2, 2, 2, 2, 2]), .inl (0, 8)]) _ _ _ _
  generalize hg2 : gb_z g1 (c + 1) = g2
  refine gb_putrP (i := 0) hc rfl f_X1_15 (fun _ => ⟨rfl, rfl⟩) (Nat.le_of_ble_eq_true rfl) (fun _ => rfl) (fun _ => rfl) d_X1_init_14 ?_
  show gb_J Γ M_X1_init _ _ _ _ (pre ++ [.inr (1, [2, 0, (c + 1) + 3, 2, 2, 2, 2]), .inl (0, 8)]) _ _ _ _
  refine gb_aload_n d_X1_init_17 rfl ?_
  refine gb_bipush 8 d_X1_init_18 rfl ?_
  refine gb_newarrP (n := 2) (N := 8) hc rfl rfl (by decide) wa_0 (by decide) (by decide) (by decide) (Nat.le_of_ble_eq_true rfl) (Nat.le_of_ble_eq_true rfl) d_X1_init_20 ?_
  show gb_J Γ M_X1_init _ _ _ _ (pre ++ [.inr (1, [2, 0, (c + 1) + 3, 2, 2, 2, 2]), .inl (0, 8), .inl (0, 8)]) _ _ _ _
  generalize hg3 : gb_z g2 (c + 2) = g3
  refine gb_putrP (i := 0) hc rfl f_X1_19 (fun _ => ⟨rfl, rfl⟩) (Nat.le_of_ble_eq_true rfl) (fun _ => rfl) (fun _ => rfl) d_X1_init_22 ?_
  show gb_J Γ M_X1_init _ _ _ _ (pre ++ [.inr (1, [2, 0, (c + 1) + 3, (c + 2) + 3, 2, 2, 2]), .inl (0, 8), .inl (0, 8)]) _ _ _ _
  refine gb_aload_n d_X1_init_25 rfl ?_
  refine gb_bipush 8 d_X1_init_26 rfl ?_
  refine gb_newarrP (n := 3) (N := 8) hc rfl rfl (by decide) wa_0 (by decide) (by decide) (by decide) (Nat.le_of_ble_eq_true rfl) (Nat.le_of_ble_eq_true rfl) d_X1_init_28 ?_
  show gb_J Γ M_X1_init _ _ _ _ (pre ++ [.inr (1, [2, 0, (c + 1) + 3, (c + 2) + 3, 2, 2, 2]), .inl (0, 8), .inl (0, 8), .inl (0, 8)]) _ _ _ _
  generalize hg4 : gb_z g3 (c + 3) = g4
  refine gb_putrP (i := 0) hc rfl f_X1_22 (fun _ => ⟨rfl, rfl⟩) (Nat.le_of_ble_eq_true rfl) (fun _ => rfl) (fun _ => rfl) d_X1_init_30 ?_
  show gb_J Γ M_X1_init _ _ _ _ (pre ++ [.inr (1, [2, 0, (c + 1) + 3, (c + 2) + 3, (c + 3) + 3, 2, 2]), .inl (0, 8), .inl (0, 8), .inl (0, 8)]) _ _ _ _
  refine gb_aload_n d_X1_init_33 rfl ?_
  refine gb_newP (n := 4) hc rfl n_X1_25 (Nat.le_of_ble_eq_true rfl) (Nat.le_of_ble_eq_true rfl) d_X1_init_34 ?_
  show gb_J Γ M_X1_init _ _ _ _ (pre ++ [.inr (1, [2, 0, (c + 1) + 3, (c + 2) + 3, (c + 3) + 3, 2, 2]), .inl (0, 8), .inl (0, 8), .inl (0, 8), .inr (2, [1, 1])]) _ _ _ _
  generalize hg5 : gb_z g4 (c + 4) = g5
  refine gb_dup d_X1_init_37 rfl ?_
  refine gb_cINn (As := []) (rest := [.ref (c + 4), .ref c]) m_X1_27 (ti_X2_init (Γ := Γ) (pre := pre ++ [.inr (1, [2, 0, (c + 1) + 3, (c + 2) + 3, (c + 3) + 3, 2, 2]), .inl (0, 8), .inl (0, 8), .inl (0, 8)]) (c := c + 4)  (by rw [List.length_append, hc]; rfl) (by rw [List.append_assoc]; rfl)) (Nat.le_of_ble_eq_true rfl) (Nat.le_of_ble_eq_true rfl) (Nat.le_of_ble_eq_true rfl) rfl rfl (Nat.le_of_ble_eq_true rfl) d_X1_init_38 ?_
  rw [List.append_assoc]
  show gb_J Γ M_X1_init _ _ _ _ (pre ++ [.inr (1, [2, 0, (c + 1) + 3, (c + 2) + 3, (c + 3) + 3, 2, 2]), .inl (0, 8), .inl (0, 8), .inl (0, 8), .inr (2, [1, 1])]) _ _ _ _
  generalize hg6 : gi_X2_init (c + 4) g5 = g6
  refine gb_putrP (i := 0) hc rfl f_X1_28 (fun _ => ⟨rfl, rfl⟩) (Nat.le_of_ble_eq_true rfl) (fun _ => rfl) (fun _ => rfl) d_X1_init_41 ?_
  show gb_J Γ M_X1_init _ _ _ _ (pre ++ [.inr (1, [2, 0, (c + 1) + 3, (c + 2) + 3, (c + 3) + 3, (c + 4) + 3, 2]), .inl (0, 8), .inl (0, 8), .inl (0, 8), .inr (2, [1, 1])]) _ _ _ _
  refine gb_aload_n d_X1_init_44 rfl ?_
  refine gb_newP (n := 5) hc rfl n_X1_25 (Nat.le_of_ble_eq_true rfl) (Nat.le_of_ble_eq_true rfl) d_X1_init_45 ?_
  show gb_J Γ M_X1_init _ _ _ _ (pre ++ [.inr (1, [2, 0, (c + 1) + 3, (c + 2) + 3, (c + 3) + 3, (c + 4) + 3, 2]), .inl (0, 8), .inl (0, 8), .inl (0, 8), .inr (2, [1, 1]), .inr (2, [1, 1])]) _ _ _ _
  generalize hg7 : gb_z g6 (c + 5) = g7
  refine gb_dup d_X1_init_48 rfl ?_
  refine gb_cINn (As := []) (rest := [.ref (c + 5), .ref c]) m_X1_27 (ti_X2_init (Γ := Γ) (pre := pre ++ [.inr (1, [2, 0, (c + 1) + 3, (c + 2) + 3, (c + 3) + 3, (c + 4) + 3, 2]), .inl (0, 8), .inl (0, 8), .inl (0, 8), .inr (2, [1, 1])]) (c := c + 5)  (by rw [List.length_append, hc]; rfl) (by rw [List.append_assoc]; rfl)) (Nat.le_of_ble_eq_true rfl) (Nat.le_of_ble_eq_true rfl) (Nat.le_of_ble_eq_true rfl) rfl rfl (Nat.le_of_ble_eq_true rfl) d_X1_init_49 ?_
  rw [List.append_assoc]
  show gb_J Γ M_X1_init _ _ _ _ (pre ++ [.inr (1, [2, 0, (c + 1) + 3, (c + 2) + 3, (c + 3) + 3, (c + 4) + 3, 2]), .inl (0, 8), .inl (0, 8), .inl (0, 8), .inr (2, [1, 1]), .inr (2, [1, 1])]) _ _ _ _
  generalize hg8 : gi_X2_init (c + 5) g7 = g8
  refine gb_putrP (i := 0) hc rfl f_X1_32 (fun _ => ⟨rfl, rfl⟩) (Nat.le_of_ble_eq_true rfl) (fun _ => rfl) (fun _ => rfl) d_X1_init_52 ?_
  show gb_J Γ M_X1_init _ _ _ _ (pre ++ [.inr (1, [2, 0, (c + 1) + 3, (c + 2) + 3, (c + 3) + 3, (c + 4) + 3, (c + 5) + 3]), .inl (0, 8), .inl (0, 8), .inl (0, 8), .inr (2, [1, 1]), .inr (2, [1, 1])]) _ _ _ _
  refine gb_aload_n d_X1_init_55 rfl ?_
  refine gb_aload_n d_X1_init_56 rfl ?_
  refine gb_putrP (i := 0) hc rfl f_X1_35 (fun _ => ⟨rfl, rfl⟩) (Nat.le_of_ble_eq_true rfl) (fun _ => rfl) (fun _ => rfl) d_X1_init_57 ?_
  show gb_J Γ M_X1_init _ _ _ _ (pre ++ [.inr (1, [b1 + 3, 0, (c + 1) + 3, (c + 2) + 3, (c + 3) + 3, (c + 4) + 3, (c + 5) + 3]), .inl (0, 8), .inl (0, 8), .inl (0, 8), .inr (2, [1, 1]), .inr (2, [1, 1])]) _ _ _ _
  exact gb_vret d_X1_init_60 rfl ⟨rfl, by subst_vars; rfl, rfl⟩
def gi_X6_init (c : Nat) (g : gb_G) : gb_G := gb_let (gb_z g (c + 1)) (fun g1 => gb_let (gb_z g1 (c + 2)) (fun g2 => gb_let (gb_z g2 (c + 3)) (fun g3 => gb_let (gb_z g3 (c + 4)) (fun g4 => gb_let (gb_z g4 (c + 5)) (fun g5 => gb_let (gb_z g5 (c + 6)) (fun g6 => gb_let (gb_z g6 (c + 7)) (fun g7 => gb_let (gb_z g7 (c + 8)) (fun g8 => gb_let (gb_pi g8 (c + 0) 10 0) (fun g9 => gb_let (gb_z g9 (c + 9)) (fun g10 => gb_let (gb_pi g10 (c + 0) 12 0) (fun g11 => gb_let (gb_z g11 (c + 10)) (fun g12 => gb_let (gb_z g12 (c + 11)) (fun g13 => gb_let (gi_X2_init (c + 11) g13) (fun g14 => g14))))))))))))))
def gl_X6_init (c : Nat) (b1 : Nat) (b2 : Nat) : List gb_Sh := [.inr (6, [b1 + 3, b2 + 3, (c + 1) + 3, (c + 2) + 3, (c + 3) + 3, (c + 4) + 3, (c + 5) + 3, (c + 6) + 3, (c + 7) + 3, (c + 8) + 3, 0, (c + 9) + 3, 0, (c + 10) + 3, (c + 11) + 3]), .inl (0, 900), .inl (0, 8), .inl (0, 8), .inl (0, 8), .inl (0, 8), .inl (0, 2048), .inl (0, 8), .inl (0, 8), .inl (0, 256), .inl (1, 13), .inr (2, [1, 1])]
set_option maxRecDepth 100000 in
set_option maxHeartbeats 4000000 in
theorem ti_X6_init {Γ : gb_X} {sh pre : List gb_Sh} {g : gb_G} {c : Nat} (b1 : Nat) (b2 : Nat) (hc : pre.length = c) (hsh : sh = pre ++ [.inr (6, [2, 2, 2, 2, 2, 2, 2, 2, 2, 2, 0, 2, 0, 2, 2])]) : gb_C Γ M_X6_init 2 11 3267 sh g [.ref c, .ref b1, .ref b2] (gb_Rn (pre ++ gl_X6_init c b1 b2) (gi_X6_init c g)) := by
  subst hsh
  refine gb_C.of rfl (Nat.le_of_ble_eq_true rfl) ?_
  refine gb_pick (lv' := [(0, .ref c), (1, .ref b1), (2, .ref b2)]) [0, 1, 2] rfl ?_
  refine gb_aload_n d_X6_init_0 rfl ?_
  refine gb_obj o_X6_3 wo_i wo_c (Nat.le_of_ble_eq_true rfl) (Nat.le_of_ble_eq_true rfl) d_X6_init_1 ?_
  refine gb_aload_n d_X6_init_4 rfl ?_
  refine gb_sipush 900 d_X6_init_5 rfl ?_
  refine gb_newarrP (n := 1) (N := 900) hc rfl rfl (by decide) wa_0 (by decide) (by decide) (by decide) (Nat.le_of_ble_eq_true rfl) (Nat.le_of_ble_eq_true rfl) d_X6_init_8 ?_
  show gb_J Γ M_X6_init _ _ _ _ (pre ++ [.inr (6, [2, 2, 2, 2, 2, 2, 2, 2, 2, 2, 0, 2, 0, 2, 2]), .inl (0, 900)]) _ _ _ _
  generalize hg1 : gb_z g (c + 1) = g1
  refine gb_putrP (i := 0) hc rfl f_X6_11 (fun _ => ⟨rfl, rfl⟩) (Nat.le_of_ble_eq_true rfl) (fun _ => rfl) (fun _ => rfl) d_X6_init_10 ?_
  show gb_J Γ M_X6_init _ _ _ _ (pre ++ [.inr (6, [2, 2, (c + 1) + 3, 2, 2, 2, 2, 2, 2, 2, 0, 2, 0, 2, 2]), .inl (0, 900)]) _ _ _ _
  refine gb_aload_n d_X6_init_13 rfl ?_
  refine gb_bipush 8 d_X6_init_14 rfl ?_
  refine gb_newarrP (n := 2) (N := 8) hc rfl rfl (by decide) wa_0 (by decide) (by decide) (by decide) (Nat.le_of_ble_eq_true rfl) (Nat.le_of_ble_eq_true rfl) d_X6_init_16 ?_
  show gb_J Γ M_X6_init _ _ _ _ (pre ++ [.inr (6, [2, 2, (c + 1) + 3, 2, 2, 2, 2, 2, 2, 2, 0, 2, 0, 2, 2]), .inl (0, 900), .inl (0, 8)]) _ _ _ _
  generalize hg2 : gb_z g1 (c + 2) = g2
  refine gb_putrP (i := 0) hc rfl f_X6_15 (fun _ => ⟨rfl, rfl⟩) (Nat.le_of_ble_eq_true rfl) (fun _ => rfl) (fun _ => rfl) d_X6_init_18 ?_
  show gb_J Γ M_X6_init _ _ _ _ (pre ++ [.inr (6, [2, 2, (c + 1) + 3, (c + 2) + 3, 2, 2, 2, 2, 2, 2, 0, 2, 0, 2, 2]), .inl (0, 900), .inl (0, 8)]) _ _ _ _
  refine gb_aload_n d_X6_init_21 rfl ?_
  refine gb_bipush 8 d_X6_init_22 rfl ?_
  refine gb_newarrP (n := 3) (N := 8) hc rfl rfl (by decide) wa_0 (by decide) (by decide) (by decide) (Nat.le_of_ble_eq_true rfl) (Nat.le_of_ble_eq_true rfl) d_X6_init_24 ?_
  show gb_J Γ M_X6_init _ _ _ _ (pre ++ [.inr (6, [2, 2, (c + 1) + 3, (c + 2) + 3, 2, 2, 2, 2, 2, 2, 0, 2, 0, 2, 2]), .inl (0, 900), .inl (0, 8), .inl (0, 8)]) _ _ _ _
  generalize hg3 : gb_z g2 (c + 3) = g3
  refine gb_putrP (i := 0) hc rfl f_X6_18 (fun _ => ⟨rfl, rfl⟩) (Nat.le_of_ble_eq_true rfl) (fun _ => rfl) (fun _ => rfl) d_X6_init_26 ?_
  show gb_J Γ M_X6_init _ _ _ _ (pre ++ [.inr (6, [2, 2, (c + 1) + 3, (c + 2) + 3, (c + 3) + 3, 2, 2, 2, 2, 2, 0, 2, 0, 2, 2]), .inl (0, 900), .inl (0, 8), .inl (0, 8)]) _ _ _ _
  refine gb_aload_n d_X6_init_29 rfl ?_
  refine gb_bipush 8 d_X6_init_30 rfl ?_
  refine gb_newarrP (n := 4) (N := 8) hc rfl rfl (by decide) wa_0 (by decide) (by decide) (by decide) (Nat.le_of_ble_eq_true rfl) (Nat.le_of_ble_eq_true rfl) d_X6_init_32 ?_
  show gb_J Γ M_X6_init _ _ _ _ (pre ++ [.inr (6, [2, 2, (c + 1) + 3, (c + 2) + 3, (c + 3) + 3, 2, 2, 2, 2, 2, 0, 2, 0, 2, 2]), .inl (0, 900), .inl (0, 8), .inl (0, 8), .inl (0, 8)]) _ _ _ _
  generalize hg4 : gb_z g3 (c + 4) = g4
  refine gb_putrP (i := 0) hc rfl f_X6_21 (fun _ => ⟨rfl, rfl⟩) (Nat.le_of_ble_eq_true rfl) (fun _ => rfl) (fun _ => rfl) d_X6_init_34 ?_
  show gb_J Γ M_X6_init _ _ _ _ (pre ++ [.inr (6, [2, 2, (c + 1) + 3, (c + 2) + 3, (c + 3) + 3, (c + 4) + 3, 2, 2, 2, 2, 0, 2, 0, 2, 2]), .inl (0, 900), .inl (0, 8), .inl (0, 8), .inl (0, 8)]) _ _ _ _
  refine gb_aload_n d_X6_init_37 rfl ?_
  refine gb_bipush 8 d_X6_init_38 rfl ?_
  refine gb_newarrP (n := 5) (N := 8) hc rfl rfl (by decide) wa_0 (by decide) (by decide) (by decide) (Nat.le_of_ble_eq_true rfl) (Nat.le_of_ble_eq_true rfl) d_X6_init_40 ?_
  show gb_J Γ M_X6_init _ _ _ _ (pre ++ [.inr (6, [2, 2, (c + 1) + 3, (c + 2) + 3, (c + 3) + 3, (c + 4) + 3, 2, 2, 2, 2, 0, 2, 0, 2, 2]), .inl (0, 900), .inl (0, 8), .inl (0, 8), .inl (0, 8), .inl (0, 8)]) _ _ _ _
  generalize hg5 : gb_z g4 (c + 5) = g5
  refine gb_putrP (i := 0) hc rfl f_X6_24 (fun _ => ⟨rfl, rfl⟩) (Nat.le_of_ble_eq_true rfl) (fun _ => rfl) (fun _ => rfl) d_X6_init_42 ?_
  show gb_J Γ M_X6_init _ _ _ _ (pre ++ [.inr (6, [2, 2, (c + 1) + 3, (c + 2) + 3, (c + 3) + 3, (c + 4) + 3, (c + 5) + 3, 2, 2, 2, 0, 2, 0, 2, 2]), .inl (0, 900), .inl (0, 8), .inl (0, 8), .inl (0, 8), .inl (0, 8)]) _ _ _ _
  refine gb_aload_n d_X6_init_45 rfl ?_
  refine gb_sipush 2048 d_X6_init_46 rfl ?_
  refine gb_newarrP (n := 6) (N := 2048) hc rfl rfl (by decide) wa_0 (by decide) (by decide) (by decide) (Nat.le_of_ble_eq_true rfl) (Nat.le_of_ble_eq_true rfl) d_X6_init_49 ?_
  show gb_J Γ M_X6_init _ _ _ _ (pre ++ [.inr (6, [2, 2, (c + 1) + 3, (c + 2) + 3, (c + 3) + 3, (c + 4) + 3, (c + 5) + 3, 2, 2, 2, 0, 2, 0, 2, 2]), .inl (0, 900), .inl (0, 8), .inl (0, 8), .inl (0, 8), .inl (0, 8), .inl (0, 2048)]) _ _ _ _
  generalize hg6 : gb_z g5 (c + 6) = g6
  refine gb_putrP (i := 0) hc rfl f_X6_27 (fun _ => ⟨rfl, rfl⟩) (Nat.le_of_ble_eq_true rfl) (fun _ => rfl) (fun _ => rfl) d_X6_init_51 ?_
  show gb_J Γ M_X6_init _ _ _ _ (pre ++ [.inr (6, [2, 2, (c + 1) + 3, (c + 2) + 3, (c + 3) + 3, (c + 4) + 3, (c + 5) + 3, (c + 6) + 3, 2, 2, 0, 2, 0, 2, 2]), .inl (0, 900), .inl (0, 8), .inl (0, 8), .inl (0, 8), .inl (0, 8), .inl (0, 2048)]) _ _ _ _
  refine gb_aload_n d_X6_init_54 rfl ?_
  refine gb_bipush 8 d_X6_init_55 rfl ?_
  refine gb_newarrP (n := 7) (N := 8) hc rfl rfl (by decide) wa_0 (by decide) (by decide) (by decide) (Nat.le_of_ble_eq_true rfl) (Nat.le_of_ble_eq_true rfl) d_X6_init_57 ?_
  show gb_J Γ M_X6_init _ _ _ _ (pre ++ [.inr (6, [2, 2, (c + 1) + 3, (c + 2) + 3, (c + 3) + 3, (c + 4) + 3, (c + 5) + 3, (c + 6) + 3, 2, 2, 0, 2, 0, 2, 2]), .inl (0, 900), .inl (0, 8), .inl (0, 8), .inl (0, 8), .inl (0, 8), .inl (0, 2048), .inl (0, 8)]) _ _ _ _
  generalize hg7 : gb_z g6 (c + 7) = g7
  refine gb_putrP (i := 0) hc rfl f_X6_30 (fun _ => ⟨rfl, rfl⟩) (Nat.le_of_ble_eq_true rfl) (fun _ => rfl) (fun _ => rfl) d_X6_init_59 ?_
  show gb_J Γ M_X6_init _ _ _ _ (pre ++ [.inr (6, [2, 2, (c + 1) + 3, (c + 2) + 3, (c + 3) + 3, (c + 4) + 3, (c + 5) + 3, (c + 6) + 3, (c + 7) + 3, 2, 0, 2, 0, 2, 2]), .inl (0, 900), .inl (0, 8), .inl (0, 8), .inl (0, 8), .inl (0, 8), .inl (0, 2048), .inl (0, 8)]) _ _ _ _
  refine gb_aload_n d_X6_init_62 rfl ?_
  refine gb_bipush 8 d_X6_init_63 rfl ?_
  refine gb_newarrP (n := 8) (N := 8) hc rfl rfl (by decide) wa_0 (by decide) (by decide) (by decide) (Nat.le_of_ble_eq_true rfl) (Nat.le_of_ble_eq_true rfl) d_X6_init_65 ?_
  show gb_J Γ M_X6_init _ _ _ _ (pre ++ [.inr (6, [2, 2, (c + 1) + 3, (c + 2) + 3, (c + 3) + 3, (c + 4) + 3, (c + 5) + 3, (c + 6) + 3, (c + 7) + 3, 2, 0, 2, 0, 2, 2]), .inl (0, 900), .inl (0, 8), .inl (0, 8), .inl (0, 8), .inl (0, 8), .inl (0, 2048), .inl (0, 8), .inl (0, 8)]) _ _ _ _
  generalize hg8 : gb_z g7 (c + 8) = g8
  refine gb_putrP (i := 0) hc rfl f_X6_33 (fun _ => ⟨rfl, rfl⟩) (Nat.le_of_ble_eq_true rfl) (fun _ => rfl) (fun _ => rfl) d_X6_init_67 ?_
  show gb_J Γ M_X6_init _ _ _ _ (pre ++ [.inr (6, [2, 2, (c + 1) + 3, (c + 2) + 3, (c + 3) + 3, (c + 4) + 3, (c + 5) + 3, (c + 6) + 3, (c + 7) + 3, (c + 8) + 3, 0, 2, 0, 2, 2]), .inl (0, 900), .inl (0, 8), .inl (0, 8), .inl (0, 8), .inl (0, 8), .inl (0, 2048), .inl (0, 8), .inl (0, 8)]) _ _ _ _
  refine gb_aload_n d_X6_init_70 rfl ?_
  refine gb_iconst 0 d_X6_init_71 rfl ?_
  refine gb_puti f_X6_36 (fun _ => ⟨rfl, rfl⟩) (gb_at (i := 0) hc rfl) rfl rfl rfl d_X6_init_72 ?_
  generalize hg9 : gb_pi g8 (c + 0) 10 0 = g9
  refine gb_aload_n d_X6_init_75 rfl ?_
  refine gb_sipush 256 d_X6_init_76 rfl ?_
  refine gb_newarrP (n := 9) (N := 256) hc rfl rfl (by decide) wa_0 (by decide) (by decide) (by decide) (Nat.le_of_ble_eq_true rfl) (Nat.le_of_ble_eq_true rfl) d_X6_init_79 ?_
  show gb_J Γ M_X6_init _ _ _ _ (pre ++ [.inr (6, [2, 2, (c + 1) + 3, (c + 2) + 3, (c + 3) + 3, (c + 4) + 3, (c + 5) + 3, (c + 6) + 3, (c + 7) + 3, (c + 8) + 3, 0, 2, 0, 2, 2]), .inl (0, 900), .inl (0, 8), .inl (0, 8), .inl (0, 8), .inl (0, 8), .inl (0, 2048), .inl (0, 8), .inl (0, 8), .inl (0, 256)]) _ _ _ _
  generalize hg10 : gb_z g9 (c + 9) = g10
  refine gb_putrP (i := 0) hc rfl f_X6_40 (fun _ => ⟨rfl, rfl⟩) (Nat.le_of_ble_eq_true rfl) (fun _ => rfl) (fun _ => rfl) d_X6_init_81 ?_
  show gb_J Γ M_X6_init _ _ _ _ (pre ++ [.inr (6, [2, 2, (c + 1) + 3, (c + 2) + 3, (c + 3) + 3, (c + 4) + 3, (c + 5) + 3, (c + 6) + 3, (c + 7) + 3, (c + 8) + 3, 0, (c + 9) + 3, 0, 2, 2]), .inl (0, 900), .inl (0, 8), .inl (0, 8), .inl (0, 8), .inl (0, 8), .inl (0, 2048), .inl (0, 8), .inl (0, 8), .inl (0, 256)]) _ _ _ _
  refine gb_aload_n d_X6_init_84 rfl ?_
  refine gb_iconst 0 d_X6_init_85 rfl ?_
  refine gb_puti f_X6_43 (fun _ => ⟨rfl, rfl⟩) (gb_at (i := 0) hc rfl) rfl rfl rfl d_X6_init_86 ?_
  generalize hg11 : gb_pi g10 (c + 0) 12 0 = g11
  refine gb_aload_n d_X6_init_89 rfl ?_
  refine gb_bipush 13 d_X6_init_90 rfl ?_
  refine gb_newarrP (n := 10) (N := 13) hc rfl rfl (by decide) wa_1 (by decide) (by decide) (by decide) (Nat.le_of_ble_eq_true rfl) (Nat.le_of_ble_eq_true rfl) d_X6_init_92 ?_
  show gb_J Γ M_X6_init _ _ _ _ (pre ++ [.inr (6, [2, 2, (c + 1) + 3, (c + 2) + 3, (c + 3) + 3, (c + 4) + 3, (c + 5) + 3, (c + 6) + 3, (c + 7) + 3, (c + 8) + 3, 0, (c + 9) + 3, 0, 2, 2]), .inl (0, 900), .inl (0, 8), .inl (0, 8), .inl (0, 8), .inl (0, 8), .inl (0, 2048), .inl (0, 8), .inl (0, 8), .inl (0, 256), .inl (1, 13)]) _ _ _ _
  generalize hg12 : gb_z g11 (c + 10) = g12
  refine gb_putrP (i := 0) hc rfl f_X6_46 (fun _ => ⟨rfl, rfl⟩) (Nat.le_of_ble_eq_true rfl) (fun _ => rfl) (fun _ => rfl) d_X6_init_94 ?_
  show gb_J Γ M_X6_init _ _ _ _ (pre ++ [.inr (6, [2, 2, (c + 1) + 3, (c + 2) + 3, (c + 3) + 3, (c + 4) + 3, (c + 5) + 3, (c + 6) + 3, (c + 7) + 3, (c + 8) + 3, 0, (c + 9) + 3, 0, (c + 10) + 3, 2]), .inl (0, 900), .inl (0, 8), .inl (0, 8), .inl (0, 8), .inl (0, 8), .inl (0, 2048), .inl (0, 8), .inl (0, 8), .inl (0, 256), .inl (1, 13)]) _ _ _ _
  refine gb_aload_n d_X6_init_97 rfl ?_
  refine gb_newP (n := 11) hc rfl n_X6_50 (Nat.le_of_ble_eq_true rfl) (Nat.le_of_ble_eq_true rfl) d_X6_init_98 ?_
  show gb_J Γ M_X6_init _ _ _ _ (pre ++ [.inr (6, [2, 2, (c + 1) + 3, (c + 2) + 3, (c + 3) + 3, (c + 4) + 3, (c + 5) + 3, (c + 6) + 3, (c + 7) + 3, (c + 8) + 3, 0, (c + 9) + 3, 0, (c + 10) + 3, 2]), .inl (0, 900), .inl (0, 8), .inl (0, 8), .inl (0, 8), .inl (0, 8), .inl (0, 2048), .inl (0, 8), .inl (0, 8), .inl (0, 256), .inl (1, 13), .inr (2, [1, 1])]) _ _ _ _
  generalize hg13 : gb_z g12 (c + 11) = g13
  refine gb_dup d_X6_init_101 rfl ?_
  refine gb_cINn (As := []) (rest := [.ref (c + 11), .ref c]) m_X6_52 (ti_X2_init (Γ := Γ) (pre := pre ++ [.inr (6, [2, 2, (c + 1) + 3, (c + 2) + 3, (c + 3) + 3, (c + 4) + 3, (c + 5) + 3, (c + 6) + 3, (c + 7) + 3, (c + 8) + 3, 0, (c + 9) + 3, 0, (c + 10) + 3, 2]), .inl (0, 900), .inl (0, 8), .inl (0, 8), .inl (0, 8), .inl (0, 8), .inl (0, 2048), .inl (0, 8), .inl (0, 8), .inl (0, 256), .inl (1, 13)]) (c := c + 11)  (by rw [List.length_append, hc]; rfl) (by rw [List.append_assoc]; rfl)) (Nat.le_of_ble_eq_true rfl) (Nat.le_of_ble_eq_true rfl) (Nat.le_of_ble_eq_true rfl) rfl rfl (Nat.le_of_ble_eq_true rfl) d_X6_init_102 ?_
  rw [List.append_assoc]
  show gb_J Γ M_X6_init _ _ _ _ (pre ++ [.inr (6, [2, 2, (c + 1) + 3, (c + 2) + 3, (c + 3) + 3, (c + 4) + 3, (c + 5) + 3, (c + 6) + 3, (c + 7) + 3, (c + 8) + 3, 0, (c + 9) + 3, 0, (c + 10) + 3, 2]), .inl (0, 900), .inl (0, 8), .inl (0, 8), .inl (0, 8), .inl (0, 8), .inl (0, 2048), .inl (0, 8), .inl (0, 8), .inl (0, 256), .inl (1, 13), .inr (2, [1, 1])]) _ _ _ _
  generalize hg14 : gi_X2_init (c + 11) g13 = g14
  refine gb_putrP (i := 0) hc rfl f_X6_53 (fun _ => ⟨rfl, rfl⟩) (Nat.le_of_ble_eq_true rfl) (fun _ => rfl) (fun _ => rfl) d_X6_init_105 ?_
  show gb_J Γ M_X6_init _ _ _ _ (pre ++ [.inr (6, [2, 2, (c + 1) + 3, (c + 2) + 3, (c + 3) + 3, (c + 4) + 3, (c + 5) + 3, (c + 6) + 3, (c + 7) + 3, (c + 8) + 3, 0, (c + 9) + 3, 0, (c + 10) + 3, (c + 11) + 3]), .inl (0, 900), .inl (0, 8), .inl (0, 8), .inl (0, 8), .inl (0, 8), .inl (0, 2048), .inl (0, 8), .inl (0, 8), .inl (0, 256), .inl (1, 13), .inr (2, [1, 1])]) _ _ _ _
  refine gb_aload_n d_X6_init_108 rfl ?_
  refine gb_aload_n d_X6_init_109 rfl ?_
  refine gb_putrP (i := 0) hc rfl f_X6_57 (fun _ => ⟨rfl, rfl⟩) (Nat.le_of_ble_eq_true rfl) (fun _ => rfl) (fun _ => rfl) d_X6_init_110 ?_
  show gb_J Γ M_X6_init _ _ _ _ (pre ++ [.inr (6, [b1 + 3, 2, (c + 1) + 3, (c + 2) + 3, (c + 3) + 3, (c + 4) + 3, (c + 5) + 3, (c + 6) + 3, (c + 7) + 3, (c + 8) + 3, 0, (c + 9) + 3, 0, (c + 10) + 3, (c + 11) + 3]), .inl (0, 900), .inl (0, 8), .inl (0, 8), .inl (0, 8), .inl (0, 8), .inl (0, 2048), .inl (0, 8), .inl (0, 8), .inl (0, 256), .inl (1, 13), .inr (2, [1, 1])]) _ _ _ _
  refine gb_aload_n d_X6_init_113 rfl ?_
  refine gb_aload_n d_X6_init_114 rfl ?_
  refine gb_putrP (i := 0) hc rfl f_X6_61 (fun _ => ⟨rfl, rfl⟩) (Nat.le_of_ble_eq_true rfl) (fun _ => rfl) (fun _ => rfl) d_X6_init_115 ?_
  show gb_J Γ M_X6_init _ _ _ _ (pre ++ [.inr (6, [b1 + 3, b2 + 3, (c + 1) + 3, (c + 2) + 3, (c + 3) + 3, (c + 4) + 3, (c + 5) + 3, (c + 6) + 3, (c + 7) + 3, (c + 8) + 3, 0, (c + 9) + 3, 0, (c + 10) + 3, (c + 11) + 3]), .inl (0, 900), .inl (0, 8), .inl (0, 8), .inl (0, 8), .inl (0, 8), .inl (0, 2048), .inl (0, 8), .inl (0, 8), .inl (0, 256), .inl (1, 13), .inr (2, [1, 1])]) _ _ _ _
  exact gb_vret d_X6_init_118 rfl ⟨rfl, by subst_vars; rfl, rfl⟩
def gi_X10_init (c : Nat) (g : gb_G) : gb_G := gb_let (gb_z g (c + 1)) (fun g1 => gb_let (gi_X0_init (c + 1) g1) (fun g2 => gb_let (gb_z g2 (c + 7)) (fun g3 => gb_let (gi_X0_init (c + 7) g3) (fun g4 => gb_let (gb_z g4 (c + 13)) (fun g5 => gb_let (gi_X0_init (c + 13) g5) (fun g6 => gb_let (gb_z g6 (c + 19)) (fun g7 => gb_let (gb_z g7 (c + 20)) (fun g8 => gb_let (gi_X0_init (c + 20) g8) (fun g9 => gb_let (gb_pr g9 (c + 19) 0 (some (c + 20))) (fun g10 => gb_let (gb_z g10 (c + 26)) (fun g11 => gb_let (gi_X0_init (c + 26) g11) (fun g12 => gb_let (gb_pr g12 (c + 19) 1 (some (c + 26))) (fun g13 => gb_let (gb_z g13 (c + 32)) (fun g14 => gb_let (gb_z g14 (c + 33)) (fun g15 => gb_let (gi_X3_init (c + 33) g15) (fun g16 => gb_let (gb_z g16 (c + 38)) (fun g17 => gb_let (gi_X3_init (c + 38) g17) (fun g18 => gb_let (gb_z g18 (c + 43)) (fun g19 => gb_let (gi_X9_init (c + 43) g19) (fun g20 => gb_let (gb_z g20 (c + 45)) (fun g21 => gb_let (gi_X8_init (c + 45) g21) (fun g22 => gb_let (gb_z g22 (c + 52)) (fun g23 => gb_let (gi_X5_init (c + 52) g23) (fun g24 => gb_let (gb_z g24 (c + 54)) (fun g25 => gb_let (gi_X4_init (c + 54) g25) (fun g26 => gb_let (gb_z g26 (c + 57)) (fun g27 => gb_let (gi_X1_init (c + 57) g27) (fun g28 => gb_let (gb_z g28 (c + 63)) (fun g29 => gb_let (gi_X6_init (c + 63) g29) (fun g30 => gb_let (gb_z g30 (c + 75)) (fun g31 => gb_let (gb_z g31 (c + 76)) (fun g32 => gb_let (gb_pi g32 (c + 0) 15 (-1)) (fun g33 => gb_let (gb_pi g33 (c + 0) 16 0) (fun g34 => gb_let (gb_pi g34 (c + 0) 17 (-1)) (fun g35 => gb_let (gb_pi g35 (c + 0) 18 0) (fun g36 => g36))))))))))))))))))))))))))))))))))))
def gl_X10_init (c : Nat) : List gb_Sh := [.inr (10, [(c + 1) + 3, (c + 7) + 3, (c + 13) + 3, (c + 19) + 3, (c + 32) + 3, (c + 33) + 3, (c + 38) + 3, (c + 43) + 3, (c + 45) + 3, (c + 52) + 3, (c + 54) + 3, (c + 57) + 3, (c + 63) + 3, (c + 75) + 3, (c + 76) + 3, 0, 0, 0, 0]), .inr (0, [0, (c + 2) + 3, 0, (c + 3) + 3, 0, (c + 4) + 3, (c + 5) + 3, 0, (c + 6) + 3, 0]), .inl (0, 56), .inl (0, 40), .inl (0, 12), .inl (0, 3), .inl (3, 6), .inr (0, [0, (c + 8) + 3, 0, (c + 9) + 3, 0, (c + 10) + 3, (c + 11) + 3, 0, (c + 12) + 3, 0]), .inl (0, 56), .inl (0, 40), .inl (0, 12), .inl (0, 3), .inl (3, 6), .inr (0, [0, (c + 14) + 3, 0, (c + 15) + 3, 0, (c + 16) + 3, (c + 17) + 3, 0, (c + 18) + 3, 0]), .inl (0, 56), .inl (0, 40), .inl (0, 12), .inl (0, 3), .inl (3, 6), .inl (4, 2), .inr (0, [0, (c + 21) + 3, 0, (c + 22) + 3, 0, (c + 23) + 3, (c + 24) + 3, 0, (c + 25) + 3, 0]), .inl (0, 56), .inl (0, 40), .inl (0, 12), .inl (0, 3), .inl (3, 6), .inr (0, [0, (c + 27) + 3, 0, (c + 28) + 3, 0, (c + 29) + 3, (c + 30) + 3, 0, (c + 31) + 3, 0]), .inl (0, 56), .inl (0, 40), .inl (0, 12), .inl (0, 3), .inl (3, 6), .inl (0, 2), .inr (3, [0, (c + 34) + 3, (c + 35) + 3, (c + 36) + 3, (c + 37) + 3]), .inl (0, 16), .inl (0, 16), .inl (0, 16), .inl (0, 128), .inr (3, [0, (c + 39) + 3, (c + 40) + 3, (c + 41) + 3, (c + 42) + 3]), .inl (0, 16), .inl (0, 16), .inl (0, 16), .inl (0, 128), .inr (9, [(c + 44) + 3, 0, 0, 0, 0]), .inl (0, 400), .inr (8, [(c + 43) + 3, (c + 46) + 3, 0, 0]), .inr (7, [0, (c + 47) + 3, (c + 48) + 3, 0, (c + 49) + 3, (c + 50) + 3, (c + 51) + 3, 0]), .inl (0, 400), .inl (0, 400), .inl (0, 12), .inl (0, 12), .inl (0, 37), .inr (5, [(c + 53) + 3]), .inl (0, 51), .inr (4, [(c + 52) + 3, (c + 55) + 3, (c + 56) + 3]), .inl (0, 9), .inl (0, 8), .inr (1, [(c + 54) + 3, 0, (c + 58) + 3, (c + 59) + 3, (c + 60) + 3, (c + 61) + 3, (c + 62) + 3]), .inl (0, 8), .inl (0, 8), .inl (0, 8), .inr (2, [1, 1]), .inr (2, [1, 1]), .inr (6, [(c + 54) + 3, (c + 57) + 3, (c + 64) + 3, (c + 65) + 3, (c + 66) + 3, (c + 67) + 3, (c + 68) + 3, (c + 69) + 3, (c + 70) + 3, (c + 71) + 3, 0, (c + 72) + 3, 0, (c + 73) + 3, (c + 74) + 3]), .inl (0, 900), .inl (0, 8), .inl (0, 8), .inl (0, 8), .inl (0, 8), .inl (0, 2048), .inl (0, 8), .inl (0, 8), .inl (0, 256), .inl (1, 13), .inr (2, [1, 1]), .inl (0, 21), .inl (0, 7)]
set_option maxRecDepth 100000 in
set_option maxHeartbeats 4000000 in
theorem ti_X10_init {Γ : gb_X} {sh pre : List gb_Sh} {g : gb_G} {c : Nat} (hc : pre.length = c) (hsh : sh = pre ++ [.inr (10, [2, 2, 2, 2, 2, 2, 2, 2, 2, 2, 2, 2, 2, 2, 2, 0, 0, 0, 0])]) : gb_C Γ M_X10_init 3 76 5696 sh g [.ref c] (gb_Rn (pre ++ gl_X10_init c) (gi_X10_init c g)) := by
  subst hsh
  refine gb_C.of rfl (Nat.le_of_ble_eq_true rfl) ?_
  refine gb_pick (lv' := [(0, .ref c)]) [0] rfl ?_
  refine gb_aload_n d_X10_init_0 rfl ?_
  refine gb_obj o_X10_5 wo_i wo_c (Nat.le_of_ble_eq_true rfl) (Nat.le_of_ble_eq_true rfl) d_X10_init_1 ?_
  refine gb_aload_n d_X10_init_4 rfl ?_
  refine gb_newP (n := 1) hc rfl n_X10_11 (Nat.le_of_ble_eq_true rfl) (Nat.le_of_ble_eq_true rfl) d_X10_init_5 ?_
  show gb_J Γ M_X10_init _ _ _ _ (pre ++ [.inr (10, [2, 2, 2, 2, 2, 2, 2, 2, 2, 2, 2, 2, 2, 2, 2, 0, 0, 0, 0]), .inr (0, [0, 2, 0, 2, 0, 2, 2, 0, 2, 0])]) _ _ _ _
  generalize hg1 : gb_z g (c + 1) = g1
  refine gb_dup d_X10_init_8 rfl ?_
  refine gb_cINn (As := []) (rest := [.ref (c + 1), .ref c]) m_X10_13 (ti_X0_init (Γ := Γ) (pre := pre ++ [.inr (10, [2, 2, 2, 2, 2, 2, 2, 2, 2, 2, 2, 2, 2, 2, 2, 0, 0, 0, 0])]) (c := c + 1)  (by rw [List.length_append, hc]; rfl) (by rw [List.append_assoc]; rfl)) (Nat.le_of_ble_eq_true rfl) (Nat.le_of_ble_eq_true rfl) (Nat.le_of_ble_eq_true rfl) rfl rfl (Nat.le_of_ble_eq_true rfl) d_X10_init_9 ?_
  rw [List.append_assoc]
  show gb_J Γ M_X10_init _ _ _ _ (pre ++ [.inr (10, [2, 2, 2, 2, 2, 2, 2, 2, 2, 2, 2, 2, 2, 2, 2, 0, 0, 0, 0]), .inr (0, [0, (c + 2) + 3, 0, (c + 3) + 3, 0, (c + 4) + 3, (c + 5) + 3, 0, (c + 6) + 3, 0]), .inl (0, 56), .inl (0, 40), .inl (0, 12), .inl (0, 3), .inl (3, 6)]) _ _ _ _
  generalize hg2 : gi_X0_init (c + 1) g1 = g2
  refine gb_putrP (i := 0) hc rfl f_X10_14 (fun _ => ⟨rfl, rfl⟩) (Nat.le_of_ble_eq_true rfl) (fun _ => rfl) (fun _ => rfl) d_X10_init_12 ?_
  show gb_J Γ M_X10_init _ _ _ _ (pre ++ [.inr (10, [(c + 1) + 3, 2, 2, 2, 2, 2, 2, 2, 2, 2, 2, 2, 2, 2, 2, 0, 0, 0, 0]), .inr (0, [0, (c + 2) + 3, 0, (c + 3) + 3, 0, (c + 4) + 3, (c + 5) + 3, 0, (c + 6) + 3, 0]), .inl (0, 56), .inl (0, 40), .inl (0, 12), .inl (0, 3), .inl (3, 6)]) _ _ _ _
  refine gb_aload_n d_X10_init_15 rfl ?_
  refine gb_newP (n := 7) hc rfl n_X10_11 (Nat.le_of_ble_eq_true rfl) (Nat.le_of_ble_eq_true rfl) d_X10_init_16 ?_
  show gb_J Γ M_X10_init _ _ _ _ (pre ++ [.inr (10, [(c + 1) + 3, 2, 2, 2, 2, 2, 2, 2, 2, 2, 2, 2, 2, 2, 2, 0, 0, 0, 0]), .inr (0, [0, (c + 2) + 3, 0, (c + 3) + 3, 0, (c + 4) + 3, (c + 5) + 3, 0, (c + 6) + 3, 0]), .inl (0, 56), .inl (0, 40), .inl (0, 12), .inl (0, 3), .inl (3, 6), .inr (0, [0, 2, 0, 2, 0, 2, 2, 0, 2, 0])]) _ _ _ _
  generalize hg3 : gb_z g2 (c + 7) = g3
  refine gb_dup d_X10_init_19 rfl ?_
  refine gb_cINn (As := []) (rest := [.ref (c + 7), .ref c]) m_X10_13 (ti_X0_init (Γ := Γ) (pre := pre ++ [.inr (10, [(c + 1) + 3, 2, 2, 2, 2, 2, 2, 2, 2, 2, 2, 2, 2, 2, 2, 0, 0, 0, 0]), .inr (0, [0, (c + 2) + 3, 0, (c + 3) + 3, 0, (c + 4) + 3, (c + 5) + 3, 0, (c + 6) + 3, 0]), .inl (0, 56), .inl (0, 40), .inl (0, 12), .inl (0, 3), .inl (3, 6)]) (c := c + 7)  (by rw [List.length_append, hc]; rfl) (by rw [List.append_assoc]; rfl)) (Nat.le_of_ble_eq_true rfl) (Nat.le_of_ble_eq_true rfl) (Nat.le_of_ble_eq_true rfl) rfl rfl (Nat.le_of_ble_eq_true rfl) d_X10_init_20 ?_
  rw [List.append_assoc]
  show gb_J Γ M_X10_init _ _ _ _ (pre ++ [.inr (10, [(c + 1) + 3, 2, 2, 2, 2, 2, 2, 2, 2, 2, 2, 2, 2, 2, 2, 0, 0, 0, 0]), .inr (0, [0, (c + 2) + 3, 0, (c + 3) + 3, 0, (c + 4) + 3, (c + 5) + 3, 0, (c + 6) + 3, 0]), .inl (0, 56), .inl (0, 40), .inl (0, 12), .inl (0, 3), .inl (3, 6), .inr (0, [0, (c + 8) + 3, 0, (c + 9) + 3, 0, (c + 10) + 3, (c + 11) + 3, 0, (c + 12) + 3, 0]), .inl (0, 56), .inl (0, 40), .inl (0, 12), .inl (0, 3), .inl (3, 6)]) _ _ _ _
  generalize hg4 : gi_X0_init (c + 7) g3 = g4
  refine gb_putrP (i := 0) hc rfl f_X10_18 (fun _ => ⟨rfl, rfl⟩) (Nat.le_of_ble_eq_true rfl) (fun _ => rfl) (fun _ => rfl) d_X10_init_23 ?_
  show gb_J Γ M_X10_init _ _ _ _ (pre ++ [.inr (10, [(c + 1) + 3, (c + 7) + 3, 2, 2, 2, 2, 2, 2, 2, 2, 2, 2, 2, 2, 2, 0, 0, 0, 0]), .inr (0, [0, (c + 2) + 3, 0, (c + 3) + 3, 0, (c + 4) + 3, (c + 5) + 3, 0, (c + 6) + 3, 0]), .inl (0, 56), .inl (0, 40), .inl (0, 12), .inl (0, 3), .inl (3, 6), .inr (0, [0, (c + 8) + 3, 0, (c + 9) + 3, 0, (c + 10) + 3, (c + 11) + 3, 0, (c + 12) + 3, 0]), .inl (0, 56), .inl (0, 40), .inl (0, 12), .inl (0, 3), .inl (3, 6)]) _ _ _ _
  refine gb_aload_n d_X10_init_26 rfl ?_
  refine gb_newP (n := 13) hc rfl n_X10_11 (Nat.le_of_ble_eq_true rfl) (Nat.le_of_ble_eq_true rfl) d_X10_init_27 ?_
  show gb_J Γ M_X10_init _ _ _ _ (pre ++ [.inr (10, [(c + 1) + 3, (c + 7) + 3, 2, 2, 2, 2, 2, 2, 2, 2, 2, 2, 2, 2, 2, 0, 0, 0, 0]), .inr (0, [0, (c + 2) + 3, 0, (c + 3) + 3, 0, (c + 4) + 3, (c + 5) + 3, 0, (c + 6) + 3, 0]), .inl (0, 56), .inl (0, 40), .inl (0, 12), .inl (0, 3), .inl (3, 6), .inr (0, [0, (c + 8) + 3, 0, (c + 9) + 3, 0, (c + 10) + 3, (c + 11) + 3, 0, (c + 12) + 3, 0]), .inl (0, 56), .inl (0, 40), .inl (0, 12), .inl (0, 3), .inl (3, 6), .inr (0, [0, 2, 0, 2, 0, 2, 2, 0, 2, 0])]) _ _ _ _
  generalize hg5 : gb_z g4 (c + 13) = g5
  refine gb_dup d_X10_init_30 rfl ?_
  refine gb_cINn (As := []) (rest := [.ref (c + 13), .ref c]) m_X10_13 (ti_X0_init (Γ := Γ) (pre := pre ++ [.inr (10, [(c + 1) + 3, (c + 7) + 3, 2, 2, 2, 2, 2, 2, 2, 2, 2, 2, 2, 2, 2, 0, 0, 0, 0]), .inr (0, [0, (c + 2) + 3, 0, (c + 3) + 3, 0, (c + 4) + 3, (c + 5) + 3, 0, (c + 6) + 3, 0]), .inl (0, 56), .inl (0, 40), .inl (0, 12), .inl (0, 3), .inl (3, 6), .inr (0, [0, (c + 8) + 3, 0, (c + 9) + 3, 0, (c + 10) + 3, (c + 11) + 3, 0, (c + 12) + 3, 0]), .inl (0, 56), .inl (0, 40), .inl (0, 12), .inl (0, 3), .inl (3, 6)]) (c := c + 13)  (by rw [List.length_append, hc]; rfl) (by rw [List.append_assoc]; rfl)) (Nat.le_of_ble_eq_true rfl) (Nat.le_of_ble_eq_true rfl) (Nat.le_of_ble_eq_true rfl) rfl rfl (Nat.le_of_ble_eq_true rfl) d_X10_init_31 ?_
  rw [List.append_assoc]
  show gb_J Γ M_X10_init _ _ _ _ (pre ++ [.inr (10, [(c + 1) + 3, (c + 7) + 3, 2, 2, 2, 2, 2, 2, 2, 2, 2, 2, 2, 2, 2, 0, 0, 0, 0]), .inr (0, [0, (c + 2) + 3, 0, (c + 3) + 3, 0, (c + 4) + 3, (c + 5) + 3, 0, (c + 6) + 3, 0]), .inl (0, 56), .inl (0, 40), .inl (0, 12), .inl (0, 3), .inl (3, 6), .inr (0, [0, (c + 8) + 3, 0, (c + 9) + 3, 0, (c + 10) + 3, (c + 11) + 3, 0, (c + 12) + 3, 0]), .inl (0, 56), .inl (0, 40), .inl (0, 12), .inl (0, 3), .inl (3, 6), .inr (0, [0, (c + 14) + 3, 0, (c + 15) + 3, 0, (c + 16) + 3, (c + 17) + 3, 0, (c + 18) + 3, 0]), .inl (0, 56), .inl (0, 40), .inl (0, 12), .inl (0, 3), .inl (3, 6)]) _ _ _ _
  generalize hg6 : gi_X0_init (c + 13) g5 = g6
  refine gb_putrP (i := 0) hc rfl f_X10_21 (fun _ => ⟨rfl, rfl⟩) (Nat.le_of_ble_eq_true rfl) (fun _ => rfl) (fun _ => rfl) d_X10_init_34 ?_
  show gb_J Γ M_X10_init _ _ _ _ (pre ++ [.inr (10, [(c + 1) + 3, (c + 7) + 3, (c + 13) + 3, 2, 2, 2, 2, 2, 2, 2, 2, 2, 2, 2, 2, 0, 0, 0, 0]), .inr (0, [0, (c + 2) + 3, 0, (c + 3) + 3, 0, (c + 4) + 3, (c + 5) + 3, 0, (c + 6) + 3, 0]), .inl (0, 56), .inl (0, 40), .inl (0, 12), .inl (0, 3), .inl (3, 6), .inr (0, [0, (c + 8) + 3, 0, (c + 9) + 3, 0, (c + 10) + 3, (c + 11) + 3, 0, (c + 12) + 3, 0]), .inl (0, 56), .inl (0, 40), .inl (0, 12), .inl (0, 3), .inl (3, 6), .inr (0, [0, (c + 14) + 3, 0, (c + 15) + 3, 0, (c + 16) + 3, (c + 17) + 3, 0, (c + 18) + 3, 0]), .inl (0, 56), .inl (0, 40), .inl (0, 12), .inl (0, 3), .inl (3, 6)]) _ _ _ _
  refine gb_aload_n d_X10_init_37 rfl ?_
  refine gb_iconst 2 d_X10_init_38 rfl ?_
  refine gb_anewP (t := 4) (n := 19) (N := 2) hc rfl rfl (by decide) na_X10_11 wa_4 (by decide) (by decide) (by decide) (Nat.le_of_ble_eq_true rfl) (Nat.le_of_ble_eq_true rfl) d_X10_init_39 ?_
  show gb_J Γ M_X10_init _ _ _ _ (pre ++ [.inr (10, [(c + 1) + 3, (c + 7) + 3, (c + 13) + 3, 2, 2, 2, 2, 2, 2, 2, 2, 2, 2, 2, 2, 0, 0, 0, 0]), .inr (0, [0, (c + 2) + 3, 0, (c + 3) + 3, 0, (c + 4) + 3, (c + 5) + 3, 0, (c + 6) + 3, 0]), .inl (0, 56), .inl (0, 40), .inl (0, 12), .inl (0, 3), .inl (3, 6), .inr (0, [0, (c + 8) + 3, 0, (c + 9) + 3, 0, (c + 10) + 3, (c + 11) + 3, 0, (c + 12) + 3, 0]), .inl (0, 56), .inl (0, 40), .inl (0, 12), .inl (0, 3), .inl (3, 6), .inr (0, [0, (c + 14) + 3, 0, (c + 15) + 3, 0, (c + 16) + 3, (c + 17) + 3, 0, (c + 18) + 3, 0]), .inl (0, 56), .inl (0, 40), .inl (0, 12), .inl (0, 3), .inl (3, 6), .inl (4, 2)]) _ _ _ _
  generalize hg7 : gb_z g6 (c + 19) = g7
  refine gb_dup d_X10_init_42 rfl ?_
  refine gb_iconst 0 d_X10_init_43 rfl ?_
  refine gb_newP (n := 20) hc rfl n_X10_11 (Nat.le_of_ble_eq_true rfl) (Nat.le_of_ble_eq_true rfl) d_X10_init_44 ?_
  show gb_J Γ M_X10_init _ _ _ _ (pre ++ [.inr (10, [(c + 1) + 3, (c + 7) + 3, (c + 13) + 3, 2, 2, 2, 2, 2, 2, 2, 2, 2, 2, 2, 2, 0, 0, 0, 0]), .inr (0, [0, (c + 2) + 3, 0, (c + 3) + 3, 0, (c + 4) + 3, (c + 5) + 3, 0, (c + 6) + 3, 0]), .inl (0, 56), .inl (0, 40), .inl (0, 12), .inl (0, 3), .inl (3, 6), .inr (0, [0, (c + 8) + 3, 0, (c + 9) + 3, 0, (c + 10) + 3, (c + 11) + 3, 0, (c + 12) + 3, 0]), .inl (0, 56), .inl (0, 40), .inl (0, 12), .inl (0, 3), .inl (3, 6), .inr (0, [0, (c + 14) + 3, 0, (c + 15) + 3, 0, (c + 16) + 3, (c + 17) + 3, 0, (c + 18) + 3, 0]), .inl (0, 56), .inl (0, 40), .inl (0, 12), .inl (0, 3), .inl (3, 6), .inl (4, 2), .inr (0, [0, 2, 0, 2, 0, 2, 2, 0, 2, 0])]) _ _ _ _
  generalize hg8 : gb_z g7 (c + 20) = g8
  refine gb_dup d_X10_init_47 rfl ?_
  refine gb_cINn (As := []) (rest := [.ref (c + 20), .int 0, .ref (c + 19), .ref (c + 19), .ref c]) m_X10_13 (ti_X0_init (Γ := Γ) (pre := pre ++ [.inr (10, [(c + 1) + 3, (c + 7) + 3, (c + 13) + 3, 2, 2, 2, 2, 2, 2, 2, 2, 2, 2, 2, 2, 0, 0, 0, 0]), .inr (0, [0, (c + 2) + 3, 0, (c + 3) + 3, 0, (c + 4) + 3, (c + 5) + 3, 0, (c + 6) + 3, 0]), .inl (0, 56), .inl (0, 40), .inl (0, 12), .inl (0, 3), .inl (3, 6), .inr (0, [0, (c + 8) + 3, 0, (c + 9) + 3, 0, (c + 10) + 3, (c + 11) + 3, 0, (c + 12) + 3, 0]), .inl (0, 56), .inl (0, 40), .inl (0, 12), .inl (0, 3), .inl (3, 6), .inr (0, [0, (c + 14) + 3, 0, (c + 15) + 3, 0, (c + 16) + 3, (c + 17) + 3, 0, (c + 18) + 3, 0]), .inl (0, 56), .inl (0, 40), .inl (0, 12), .inl (0, 3), .inl (3, 6), .inl (4, 2)]) (c := c + 20)  (by rw [List.length_append, hc]; rfl) (by rw [List.append_assoc]; rfl)) (Nat.le_of_ble_eq_true rfl) (Nat.le_of_ble_eq_true rfl) (Nat.le_of_ble_eq_true rfl) rfl rfl (Nat.le_of_ble_eq_true rfl) d_X10_init_48 ?_
  rw [List.append_assoc]
  show gb_J Γ M_X10_init _ _ _ _ (pre ++ [.inr (10, [(c + 1) + 3, (c + 7) + 3, (c + 13) + 3, 2, 2, 2, 2, 2, 2, 2, 2, 2, 2, 2, 2, 0, 0, 0, 0]), .inr (0, [0, (c + 2) + 3, 0, (c + 3) + 3, 0, (c + 4) + 3, (c + 5) + 3, 0, (c + 6) + 3, 0]), .inl (0, 56), .inl (0, 40), .inl (0, 12), .inl (0, 3), .inl (3, 6), .inr (0, [0, (c + 8) + 3, 0, (c + 9) + 3, 0, (c + 10) + 3, (c + 11) + 3, 0, (c + 12) + 3, 0]), .inl (0, 56), .inl (0, 40), .inl (0, 12), .inl (0, 3), .inl (3, 6), .inr (0, [0, (c + 14) + 3, 0, (c + 15) + 3, 0, (c + 16) + 3, (c + 17) + 3, 0, (c + 18) + 3, 0]), .inl (0, 56), .inl (0, 40), .inl (0, 12), .inl (0, 3), .inl (3, 6), .inl (4, 2), .inr (0, [0, (c + 21) + 3, 0, (c + 22) + 3, 0, (c + 23) + 3, (c + 24) + 3, 0, (c + 25) + 3, 0]), .inl (0, 56), .inl (0, 40), .inl (0, 12), .inl (0, 3), .inl (3, 6)]) _ _ _ _
  generalize hg9 : gi_X0_init (c + 20) g8 = g9
  refine gb_aast_ (r := some (c + 20)) 0 rfl (by decide) (gb_at (i := 19) hc rfl) (by unfold vp_in; decide) (fun a ha => by cases ha; exact ⟨_, _, _, gb_at (i := 20) hc rfl, rfl, rfl⟩) d_X10_init_51 ?_
  generalize hg10 : gb_pr g9 (c + 19) 0 (some (c + 20)) = g10
  refine gb_dup d_X10_init_52 rfl ?_
  refine gb_iconst 1 d_X10_init_53 rfl ?_
  refine gb_newP (n := 26) hc rfl n_X10_11 (Nat.le_of_ble_eq_true rfl) (Nat.le_of_ble_eq_true rfl) d_X10_init_54 ?_
  show gb_J Γ M_X10_init _ _ _ _ (pre ++ [.inr (10, [(c + 1) + 3, (c + 7) + 3, (c + 13) + 3, 2, 2, 2, 2, 2, 2, 2, 2, 2, 2, 2, 2, 0, 0, 0, 0]), .inr (0, [0, (c + 2) + 3, 0, (c + 3) + 3, 0, (c + 4) + 3, (c + 5) + 3, 0, (c + 6) + 3, 0]), .inl (0, 56), .inl (0, 40), .inl (0, 12), .inl (0, 3), .inl (3, 6), .inr (0, [0, (c + 8) + 3, 0, (c + 9) + 3, 0, (c + 10) + 3, (c + 11) + 3, 0, (c + 12) + 3, 0]), .inl (0, 56), .inl (0, 40), .inl (0, 12), .inl (0, 3), .inl (3, 6), .inr (0, [0, (c + 14) + 3, 0, (c + 15) + 3, 0, (c + 16) + 3, (c + 17) + 3, 0, (c + 18) + 3, 0]), .inl (0, 56), .inl (0, 40), .inl (0, 12), .inl (0, 3), .inl (3, 6), .inl (4, 2), .inr (0, [0, (c + 21) + 3, 0, (c + 22) + 3, 0, (c + 23) + 3, (c + 24) + 3, 0, (c + 25) + 3, 0]), .inl (0, 56), .inl (0, 40), .inl (0, 12), .inl (0, 3), .inl (3, 6), .inr (0, [0, 2, 0, 2, 0, 2, 2, 0, 2, 0])]) _ _ _ _
  generalize hg11 : gb_z g10 (c + 26) = g11
  refine gb_dup d_X10_init_57 rfl ?_
  refine gb_cINn (As := []) (rest := [.ref (c + 26), .int 1, .ref (c + 19), .ref (c + 19), .ref c]) m_X10_13 (ti_X0_init (Γ := Γ) (pre := pre ++ [.inr (10, [(c + 1) + 3, (c + 7) + 3, (c + 13) + 3, 2, 2, 2, 2, 2, 2, 2, 2, 2, 2, 2, 2, 0, 0, 0, 0]), .inr (0, [0, (c + 2) + 3, 0, (c + 3) + 3, 0, (c + 4) + 3, (c + 5) + 3, 0, (c + 6) + 3, 0]), .inl (0, 56), .inl (0, 40), .inl (0, 12), .inl (0, 3), .inl (3, 6), .inr (0, [0, (c + 8) + 3, 0, (c + 9) + 3, 0, (c + 10) + 3, (c + 11) + 3, 0, (c + 12) + 3, 0]), .inl (0, 56), .inl (0, 40), .inl (0, 12), .inl (0, 3), .inl (3, 6), .inr (0, [0, (c + 14) + 3, 0, (c + 15) + 3, 0, (c + 16) + 3, (c + 17) + 3, 0, (c + 18) + 3, 0]), .inl (0, 56), .inl (0, 40), .inl (0, 12), .inl (0, 3), .inl (3, 6), .inl (4, 2), .inr (0, [0, (c + 21) + 3, 0, (c + 22) + 3, 0, (c + 23) + 3, (c + 24) + 3, 0, (c + 25) + 3, 0]), .inl (0, 56), .inl (0, 40), .inl (0, 12), .inl (0, 3), .inl (3, 6)]) (c := c + 26)  (by rw [List.length_append, hc]; rfl) (by rw [List.append_assoc]; rfl)) (Nat.le_of_ble_eq_true rfl) (Nat.le_of_ble_eq_true rfl) (Nat.le_of_ble_eq_true rfl) rfl rfl (Nat.le_of_ble_eq_true rfl) d_X10_init_58 ?_
  rw [List.append_assoc]
  show gb_J Γ M_X10_init _ _ _ _ (pre ++ [.inr (10, [(c + 1) + 3, (c + 7) + 3, (c + 13) + 3, 2, 2, 2, 2, 2, 2, 2, 2, 2, 2, 2, 2, 0, 0, 0, 0]), .inr (0, [0, (c + 2) + 3, 0, (c + 3) + 3, 0, (c + 4) + 3, (c + 5) + 3, 0, (c + 6) + 3, 0]), .inl (0, 56), .inl (0, 40), .inl (0, 12), .inl (0, 3), .inl (3, 6), .inr (0, [0, (c + 8) + 3, 0, (c + 9) + 3, 0, (c + 10) + 3, (c + 11) + 3, 0, (c + 12) + 3, 0]), .inl (0, 56), .inl (0, 40), .inl (0, 12), .inl (0, 3), .inl (3, 6), .inr (0, [0, (c + 14) + 3, 0, (c + 15) + 3, 0, (c + 16) + 3, (c + 17) + 3, 0, (c + 18) + 3, 0]), .inl (0, 56), .inl (0, 40), .inl (0, 12), .inl (0, 3), .inl (3, 6), .inl (4, 2), .inr (0, [0, (c + 21) + 3, 0, (c + 22) + 3, 0, (c + 23) + 3, (c + 24) + 3, 0, (c + 25) + 3, 0]), .inl (0, 56), .inl (0, 40), .inl (0, 12), .inl (0, 3), .inl (3, 6), .inr (0, [0, (c + 27) + 3, 0, (c + 28) + 3, 0, (c + 29) + 3, (c + 30) + 3, 0, (c + 31) + 3, 0]), .inl (0, 56), .inl (0, 40), .inl (0, 12), .inl (0, 3), .inl (3, 6)]) _ _ _ _
  generalize hg12 : gi_X0_init (c + 26) g11 = g12
  refine gb_aast_ (r := some (c + 26)) 1 rfl (by decide) (gb_at (i := 19) hc rfl) (by unfold vp_in; decide) (fun a ha => by cases ha; exact ⟨_, _, _, gb_at (i := 26) hc rfl, rfl, rfl⟩) d_X10_init_61 ?_
  generalize hg13 : gb_pr g12 (c + 19) 1 (some (c + 26)) = g13
  refine gb_putrP (i := 0) hc rfl f_X10_24 (fun _ => ⟨rfl, rfl⟩) (Nat.le_of_ble_eq_true rfl) (fun _ => rfl) (fun _ => rfl) d_X10_init_62 ?_
  show gb_J Γ M_X10_init _ _ _ _ (pre ++ [.inr (10, [(c + 1) + 3, (c + 7) + 3, (c + 13) + 3, (c + 19) + 3, 2, 2, 2, 2, 2, 2, 2, 2, 2, 2, 2, 0, 0, 0, 0]), .inr (0, [0, (c + 2) + 3, 0, (c + 3) + 3, 0, (c + 4) + 3, (c + 5) + 3, 0, (c + 6) + 3, 0]), .inl (0, 56), .inl (0, 40), .inl (0, 12), .inl (0, 3), .inl (3, 6), .inr (0, [0, (c + 8) + 3, 0, (c + 9) + 3, 0, (c + 10) + 3, (c + 11) + 3, 0, (c + 12) + 3, 0]), .inl (0, 56), .inl (0, 40), .inl (0, 12), .inl (0, 3), .inl (3, 6), .inr (0, [0, (c + 14) + 3, 0, (c + 15) + 3, 0, (c + 16) + 3, (c + 17) + 3, 0, (c + 18) + 3, 0]), .inl (0, 56), .inl (0, 40), .inl (0, 12), .inl (0, 3), .inl (3, 6), .inl (4, 2), .inr (0, [0, (c + 21) + 3, 0, (c + 22) + 3, 0, (c + 23) + 3, (c + 24) + 3, 0, (c + 25) + 3, 0]), .inl (0, 56), .inl (0, 40), .inl (0, 12), .inl (0, 3), .inl (3, 6), .inr (0, [0, (c + 27) + 3, 0, (c + 28) + 3, 0, (c + 29) + 3, (c + 30) + 3, 0, (c + 31) + 3, 0]), .inl (0, 56), .inl (0, 40), .inl (0, 12), .inl (0, 3), .inl (3, 6)]) _ _ _ _
  refine gb_aload_n d_X10_init_65 rfl ?_
  refine gb_iconst 2 d_X10_init_66 rfl ?_
  refine gb_newarrP (n := 32) (N := 2) hc rfl rfl (by decide) wa_0 (by decide) (by decide) (by decide) (Nat.le_of_ble_eq_true rfl) (Nat.le_of_ble_eq_true rfl) d_X10_init_67 ?_
  show gb_J Γ M_X10_init _ _ _ _ (pre ++ [.inr (10, [(c + 1) + 3, (c + 7) + 3, (c + 13) + 3, (c + 19) + 3, 2, 2, 2, 2, 2, 2, 2, 2, 2, 2, 2, 0, 0, 0, 0]), .inr (0, [0, (c + 2) + 3, 0, (c + 3) + 3, 0, (c + 4) + 3, (c + 5) + 3, 0, (c + 6) + 3, 0]), .inl (0, 56), .inl (0, 40), .inl (0, 12), .inl (0, 3), .inl (3, 6), .inr (0, [0, (c + 8) + 3, 0, (c + 9) + 3, 0, (c + 10) + 3, (c + 11) + 3, 0, (c + 12) + 3, 0]), .inl (0, 56), .inl (0, 40), .inl (0, 12), .inl (0, 3), .inl (3, 6), .inr (0, [0, (c + 14) + 3, 0, (c + 15) + 3, 0, (c + 16) + 3, (c + 17) + 3, 0, (c + 18) + 3, 0]), .inl (0, 56), .inl (0, 40), .inl (0, 12), .inl (0, 3), .inl (3, 6), .inl (4, 2), .inr (0, [0, (c + 21) + 3, 0, (c + 22) + 3, 0, (c + 23) + 3, (c + 24) + 3, 0, (c + 25) + 3, 0]), .inl (0, 56), .inl (0, 40), .inl (0, 12), .inl (0, 3), .inl (3, 6), .inr (0, [0, (c + 27) + 3, 0, (c + 28) + 3, 0, (c + 29) + 3, (c + 30) + 3, 0, (c + 31) + 3, 0]), .inl (0, 56), .inl (0, 40), .inl (0, 12), .inl (0, 3), .inl (3, 6), .inl (0, 2)]) _ _ _ _
  generalize hg14 : gb_z g13 (c + 32) = g14
  refine gb_putrP (i := 0) hc rfl f_X10_28 (fun _ => ⟨rfl, rfl⟩) (Nat.le_of_ble_eq_true rfl) (fun _ => rfl) (fun _ => rfl) d_X10_init_69 ?_
  show gb_J Γ M_X10_init _ _ _ _ (pre ++ [.inr (10, [(c + 1) + 3, (c + 7) + 3, (c + 13) + 3, (c + 19) + 3, (c + 32) + 3, 2, 2, 2, 2, 2, 2, 2, 2, 2, 2, 0, 0, 0, 0]), .inr (0, [0, (c + 2) + 3, 0, (c + 3) + 3, 0, (c + 4) + 3, (c + 5) + 3, 0, (c + 6) + 3, 0]), .inl (0, 56), .inl (0, 40), .inl (0, 12), .inl (0, 3), .inl (3, 6), .inr (0, [0, (c + 8) + 3, 0, (c + 9) + 3, 0, (c + 10) + 3, (c + 11) + 3, 0, (c + 12) + 3, 0]), .inl (0, 56), .inl (0, 40), .inl (0, 12), .inl (0, 3), .inl (3, 6), .inr (0, [0, (c + 14) + 3, 0, (c + 15) + 3, 0, (c + 16) + 3, (c + 17) + 3, 0, (c + 18) + 3, 0]), .inl (0, 56), .inl (0, 40), .inl (0, 12), .inl (0, 3), .inl (3, 6), .inl (4, 2), .inr (0, [0, (c + 21) + 3, 0, (c + 22) + 3, 0, (c + 23) + 3, (c + 24) + 3, 0, (c + 25) + 3, 0]), .inl (0, 56), .inl (0, 40), .inl (0, 12), .inl (0, 3), .inl (3, 6), .inr (0, [0, (c + 27) + 3, 0, (c + 28) + 3, 0, (c + 29) + 3, (c + 30) + 3, 0, (c + 31) + 3, 0]), .inl (0, 56), .inl (0, 40), .inl (0, 12), .inl (0, 3), .inl (3, 6), .inl (0, 2)]) _ _ _ _
  refine gb_aload_n d_X10_init_72 rfl ?_
  refine gb_newP (n := 33) hc rfl n_X10_32 (Nat.le_of_ble_eq_true rfl) (Nat.le_of_ble_eq_true rfl) d_X10_init_73 ?_
  show gb_J Γ M_X10_init _ _ _ _ (pre ++ [.inr (10, [(c + 1) + 3, (c + 7) + 3, (c + 13) + 3, (c + 19) + 3, (c + 32) + 3, 2, 2, 2, 2, 2, 2, 2, 2, 2, 2, 0, 0, 0, 0]), .inr (0, [0, (c + 2) + 3, 0, (c + 3) + 3, 0, (c + 4) + 3, (c + 5) + 3, 0, (c + 6) + 3, 0]), .inl (0, 56), .inl (0, 40), .inl (0, 12), .inl (0, 3), .inl (3, 6), .inr (0, [0, (c + 8) + 3, 0, (c + 9) + 3, 0, (c + 10) + 3, (c + 11) + 3, 0, (c + 12) + 3, 0]), .inl (0, 56), .inl (0, 40), .inl (0, 12), .inl (0, 3), .inl (3, 6), .inr (0, [0, (c + 14) + 3, 0, (c + 15) + 3, 0, (c + 16) + 3, (c + 17) + 3, 0, (c + 18) + 3, 0]), .inl (0, 56), .inl (0, 40), .inl (0, 12), .inl (0, 3), .inl (3, 6), .inl (4, 2), .inr (0, [0, (c + 21) + 3, 0, (c + 22) + 3, 0, (c + 23) + 3, (c + 24) + 3, 0, (c + 25) + 3, 0]), .inl (0, 56), .inl (0, 40), .inl (0, 12), .inl (0, 3), .inl (3, 6), .inr (0, [0, (c + 27) + 3, 0, (c + 28) + 3, 0, (c + 29) + 3, (c + 30) + 3, 0, (c + 31) + 3, 0]), .inl (0, 56), .inl (0, 40), .inl (0, 12), .inl (0, 3), .inl (3, 6), .inl (0, 2), .inr (3, [0, 2, 2, 2, 2])]) _ _ _ _
  generalize hg15 : gb_z g14 (c + 33) = g15
  refine gb_dup d_X10_init_76 rfl ?_
  refine gb_cINn (As := []) (rest := [.ref (c + 33), .ref c]) m_X10_34 (ti_X3_init (Γ := Γ) (pre := pre ++ [.inr (10, [(c + 1) + 3, (c + 7) + 3, (c + 13) + 3, (c + 19) + 3, (c + 32) + 3, 2, 2, 2, 2, 2, 2, 2, 2, 2, 2, 0, 0, 0, 0]), .inr (0, [0, (c + 2) + 3, 0, (c + 3) + 3, 0, (c + 4) + 3, (c + 5) + 3, 0, (c + 6) + 3, 0]), .inl (0, 56), .inl (0, 40), .inl (0, 12), .inl (0, 3), .inl (3, 6), .inr (0, [0, (c + 8) + 3, 0, (c + 9) + 3, 0, (c + 10) + 3, (c + 11) + 3, 0, (c + 12) + 3, 0]), .inl (0, 56), .inl (0, 40), .inl (0, 12), .inl (0, 3), .inl (3, 6), .inr (0, [0, (c + 14) + 3, 0, (c + 15) + 3, 0, (c + 16) + 3, (c + 17) + 3, 0, (c + 18) + 3, 0]), .inl (0, 56), .inl (0, 40), .inl (0, 12), .inl (0, 3), .inl (3, 6), .inl (4, 2), .inr (0, [0, (c + 21) + 3, 0, (c + 22) + 3, 0, (c + 23) + 3, (c + 24) + 3, 0, (c + 25) + 3, 0]), .inl (0, 56), .inl (0, 40), .inl (0, 12), .inl (0, 3), .inl (3, 6), .inr (0, [0, (c + 27) + 3, 0, (c + 28) + 3, 0, (c + 29) + 3, (c + 30) + 3, 0, (c + 31) + 3, 0]), .inl (0, 56), .inl (0, 40), .inl (0, 12), .inl (0, 3), .inl (3, 6), .inl (0, 2)]) (c := c + 33)  (by rw [List.length_append, hc]; rfl) (by rw [List.append_assoc]; rfl)) (Nat.le_of_ble_eq_true rfl) (Nat.le_of_ble_eq_true rfl) (Nat.le_of_ble_eq_true rfl) rfl rfl (Nat.le_of_ble_eq_true rfl) d_X10_init_77 ?_
  rw [List.append_assoc]
  show gb_J Γ M_X10_init _ _ _ _ (pre ++ [.inr (10, [(c + 1) + 3, (c + 7) + 3, (c + 13) + 3, (c + 19) + 3, (c + 32) + 3, 2, 2, 2, 2, 2, 2, 2, 2, 2, 2, 0, 0, 0, 0]), .inr (0, [0, (c + 2) + 3, 0, (c + 3) + 3, 0, (c + 4) + 3, (c + 5) + 3, 0, (c + 6) + 3, 0]), .inl (0, 56), .inl (0, 40), .inl (0, 12), .inl (0, 3), .inl (3, 6), .inr (0, [0, (c + 8) + 3, 0, (c + 9) + 3, 0, (c + 10) + 3, (c + 11) + 3, 0, (c + 12) + 3, 0]), .inl (0, 56), .inl (0, 40), .inl (0, 12), .inl (0, 3), .inl (3, 6), .inr (0, [0, (c + 14) + 3, 0, (c + 15) + 3, 0, (c + 16) + 3, (c + 17) + 3, 0, (c + 18) + 3, 0]), .inl (0, 56), .inl (0, 40), .inl (0, 12), .inl (0, 3), .inl (3, 6), .inl (4, 2), .inr (0, [0, (c + 21) + 3, 0, (c + 22) + 3, 0, (c + 23) + 3, (c + 24) + 3, 0, (c + 25) + 3, 0]), .inl (0, 56), .inl (0, 40), .inl (0, 12), .inl (0, 3), .inl (3, 6), .inr (0, [0, (c + 27) + 3, 0, (c + 28) + 3, 0, (c + 29) + 3, (c + 30) + 3, 0, (c + 31) + 3, 0]), .inl (0, 56), .inl (0, 40), .inl (0, 12), .inl (0, 3), .inl (3, 6), .inl (0, 2), .inr (3, [0, (c + 34) + 3, (c + 35) + 3, (c + 36) + 3, (c + 37) + 3]), .inl (0, 16), .inl (0, 16), .inl (0, 16), .inl (0, 128)]) _ _ _ _
  generalize hg16 : gi_X3_init (c + 33) g15 = g16
  refine gb_putrP (i := 0) hc rfl f_X10_35 (fun _ => ⟨rfl, rfl⟩) (Nat.le_of_ble_eq_true rfl) (fun _ => rfl) (fun _ => rfl) d_X10_init_80 ?_
  show gb_J Γ M_X10_init _ _ _ _ (pre ++ [.inr (10, [(c + 1) + 3, (c + 7) + 3, (c + 13) + 3, (c + 19) + 3, (c + 32) + 3, (c + 33) + 3, 2, 2, 2, 2, 2, 2, 2, 2, 2, 0, 0, 0, 0]), .inr (0, [0, (c + 2) + 3, 0, (c + 3) + 3, 0, (c + 4) + 3, (c + 5) + 3, 0, (c + 6) + 3, 0]), .inl (0, 56), .inl (0, 40), .inl (0, 12), .inl (0, 3), .inl (3, 6), .inr (0, [0, (c + 8) + 3, 0, (c + 9) + 3, 0, (c + 10) + 3, (c + 11) + 3, 0, (c + 12) + 3, 0]), .inl (0, 56), .inl (0, 40), .inl (0, 12), .inl (0, 3), .inl (3, 6), .inr (0, [0, (c + 14) + 3, 0, (c + 15) + 3, 0, (c + 16) + 3, (c + 17) + 3, 0, (c + 18) + 3, 0]), .inl (0, 56), .inl (0, 40), .inl (0, 12), .inl (0, 3), .inl (3, 6), .inl (4, 2), .inr (0, [0, (c + 21) + 3, 0, (c + 22) + 3, 0, (c + 23) + 3, (c + 24) + 3, 0, (c + 25) + 3, 0]), .inl (0, 56), .inl (0, 40), .inl (0, 12), .inl (0, 3), .inl (3, 6), .inr (0, [0, (c + 27) + 3, 0, (c + 28) + 3, 0, (c + 29) + 3, (c + 30) + 3, 0, (c + 31) + 3, 0]), .inl (0, 56), .inl (0, 40), .inl (0, 12), .inl (0, 3), .inl (3, 6), .inl (0, 2), .inr (3, [0, (c + 34) + 3, (c + 35) + 3, (c + 36) + 3, (c + 37) + 3]), .inl (0, 16), .inl (0, 16), .inl (0, 16), .inl (0, 128)]) _ _ _ _
  refine gb_aload_n d_X10_init_83 rfl ?_
  refine gb_newP (n := 38) hc rfl n_X10_32 (Nat.le_of_ble_eq_true rfl) (Nat.le_of_ble_eq_true rfl) d_X10_init_84 ?_
  show gb_J Γ M_X10_init _ _ _ _ (pre ++ [.inr (10, [(c + 1) + 3, (c + 7) + 3, (c + 13) + 3, (c + 19) + 3, (c + 32) + 3, (c + 33) + 3, 2, 2, 2, 2, 2, 2, 2, 2, 2, 0, 0, 0, 0]), .inr (0, [0, (c + 2) + 3, 0, (c + 3) + 3, 0, (c + 4) + 3, (c + 5) + 3, 0, (c + 6) + 3, 0]), .inl (0, 56), .inl (0, 40), .inl (0, 12), .inl (0, 3), .inl (3, 6), .inr (0, [0, (c + 8) + 3, 0, (c + 9) + 3, 0, (c + 10) + 3, (c + 11) + 3, 0, (c + 12) + 3, 0]), .inl (0, 56), .inl (0, 40), .inl (0, 12), .inl (0, 3), .inl (3, 6), .inr (0, [0, (c + 14) + 3, 0, (c + 15) + 3, 0, (c + 16) + 3, (c + 17) + 3, 0, (c + 18) + 3, 0]), .inl (0, 56), .inl (0, 40), .inl (0, 12), .inl (0, 3), .inl (3, 6), .inl (4, 2), .inr (0, [0, (c + 21) + 3, 0, (c + 22) + 3, 0, (c + 23) + 3, (c + 24) + 3, 0, (c + 25) + 3, 0]), .inl (0, 56), .inl (0, 40), .inl (0, 12), .inl (0, 3), .inl (3, 6), .inr (0, [0, (c + 27) + 3, 0, (c + 28) + 3, 0, (c + 29) + 3, (c + 30) + 3, 0, (c + 31) + 3, 0]), .inl (0, 56), .inl (0, 40), .inl (0, 12), .inl (0, 3), .inl (3, 6), .inl (0, 2), .inr (3, [0, (c + 34) + 3, (c + 35) + 3, (c + 36) + 3, (c + 37) + 3]), .inl (0, 16), .inl (0, 16), .inl (0, 16), .inl (0, 128), .inr (3, [0, 2, 2, 2, 2])]) _ _ _ _
  generalize hg17 : gb_z g16 (c + 38) = g17
  refine gb_dup d_X10_init_87 rfl ?_
  refine gb_cINn (As := []) (rest := [.ref (c + 38), .ref c]) m_X10_34 (ti_X3_init (Γ := Γ) (pre := pre ++ [.inr (10, [(c + 1) + 3, (c + 7) + 3, (c + 13) + 3, (c + 19) + 3, (c + 32) + 3, (c + 33) + 3, 2, 2, 2, 2, 2, 2, 2, 2, 2, 0, 0, 0, 0]), .inr (0, [0, (c + 2) + 3, 0, (c + 3) + 3, 0, (c + 4) + 3, (c + 5) + 3, 0, (c + 6) + 3, 0]), .inl (0, 56), .inl (0, 40), .inl (0, 12), .inl (0, 3), .inl (3, 6), .inr (0, [0, (c + 8) + 3, 0, (c + 9) + 3, 0, (c + 10) + 3, (c + 11) + 3, 0, (c + 12) + 3, 0]), .inl (0, 56), .inl (0, 40), .inl (0, 12), .inl (0, 3), .inl (3, 6), .inr (0, [0, (c + 14) + 3, 0, (c + 15) + 3, 0, (c + 16) + 3, (c + 17) + 3, 0, (c + 18) + 3, 0]), .inl (0, 56), .inl (0, 40), .inl (0, 12), .inl (0, 3), .inl (3, 6), .inl (4, 2), .inr (0, [0, (c + 21) + 3, 0, (c + 22) + 3, 0, (c + 23) + 3, (c + 24) + 3, 0, (c + 25) + 3, 0]), .inl (0, 56), .inl (0, 40), .inl (0, 12), .inl (0, 3), .inl (3, 6), .inr (0, [0, (c + 27) + 3, 0, (c + 28) + 3, 0, (c + 29) + 3, (c + 30) + 3, 0, (c + 31) + 3, 0]), .inl (0, 56), .inl (0, 40), .inl (0, 12), .inl (0, 3), .inl (3, 6), .inl (0, 2), .inr (3, [0, (c + 34) + 3, (c + 35) + 3, (c + 36) + 3, (c + 37) + 3]), .inl (0, 16), .inl (0, 16), .inl (0, 16), .inl (0, 128)]) (c := c + 38)  (by rw [List.length_append, hc]; rfl) (by rw [List.append_assoc]; rfl)) (Nat.le_of_ble_eq_true rfl) (Nat.le_of_ble_eq_true rfl) (Nat.le_of_ble_eq_true rfl) rfl rfl (Nat.le_of_ble_eq_true rfl) d_X10_init_88 ?_
  rw [List.append_assoc]
  show gb_J Γ M_X10_init _ _ _ _ (pre ++ [.inr (10, [(c + 1) + 3, (c + 7) + 3, (c + 13) + 3, (c + 19) + 3, (c + 32) + 3, (c + 33) + 3, 2, 2, 2, 2, 2, 2, 2, 2, 2, 0, 0, 0, 0]), .inr (0, [0, (c + 2) + 3, 0, (c + 3) + 3, 0, (c + 4) + 3, (c + 5) + 3, 0, (c + 6) + 3, 0]), .inl (0, 56), .inl (0, 40), .inl (0, 12), .inl (0, 3), .inl (3, 6), .inr (0, [0, (c + 8) + 3, 0, (c + 9) + 3, 0, (c + 10) + 3, (c + 11) + 3, 0, (c + 12) + 3, 0]), .inl (0, 56), .inl (0, 40), .inl (0, 12), .inl (0, 3), .inl (3, 6), .inr (0, [0, (c + 14) + 3, 0, (c + 15) + 3, 0, (c + 16) + 3, (c + 17) + 3, 0, (c + 18) + 3, 0]), .inl (0, 56), .inl (0, 40), .inl (0, 12), .inl (0, 3), .inl (3, 6), .inl (4, 2), .inr (0, [0, (c + 21) + 3, 0, (c + 22) + 3, 0, (c + 23) + 3, (c + 24) + 3, 0, (c + 25) + 3, 0]), .inl (0, 56), .inl (0, 40), .inl (0, 12), .inl (0, 3), .inl (3, 6), .inr (0, [0, (c + 27) + 3, 0, (c + 28) + 3, 0, (c + 29) + 3, (c + 30) + 3, 0, (c + 31) + 3, 0]), .inl (0, 56), .inl (0, 40), .inl (0, 12), .inl (0, 3), .inl (3, 6), .inl (0, 2), .inr (3, [0, (c + 34) + 3, (c + 35) + 3, (c + 36) + 3, (c + 37) + 3]), .inl (0, 16), .inl (0, 16), .inl (0, 16), .inl (0, 128), .inr (3, [0, (c + 39) + 3, (c + 40) + 3, (c + 41) + 3, (c + 42) + 3]), .inl (0, 16), .inl (0, 16), .inl (0, 16), .inl (0, 128)]) _ _ _ _
  generalize hg18 : gi_X3_init (c + 38) g17 = g18
  refine gb_putrP (i := 0) hc rfl f_X10_39 (fun _ => ⟨rfl, rfl⟩) (Nat.le_of_ble_eq_true rfl) (fun _ => rfl) (fun _ => rfl) d_X10_init_91 ?_
  show gb_J Γ M_X10_init _ _ _ _ (pre ++ [.inr (10, [(c + 1) + 3, (c + 7) + 3, (c + 13) + 3, (c + 19) + 3, (c + 32) + 3, (c + 33) + 3, (c + 38) + 3, 2, 2, 2, 2, 2, 2, 2, 2, 0, 0, 0, 0]), .inr (0, [0, (c + 2) + 3, 0, (c + 3) + 3, 0, (c + 4) + 3, (c + 5) + 3, 0, (c + 6) + 3, 0]), .inl (0, 56), .inl (0, 40), .inl (0, 12), .inl (0, 3), .inl (3, 6), .inr (0, [0, (c + 8) + 3, 0, (c + 9) + 3, 0, (c + 10) + 3, (c + 11) + 3, 0, (c + 12) + 3, 0]), .inl (0, 56), .inl (0, 40), .inl (0, 12), .inl (0, 3), .inl (3, 6), .inr (0, [0, (c + 14) + 3, 0, (c + 15) + 3, 0, (c + 16) + 3, (c + 17) + 3, 0, (c + 18) + 3, 0]), .inl (0, 56), .inl (0, 40), .inl (0, 12), .inl (0, 3), .inl (3, 6), .inl (4, 2), .inr (0, [0, (c + 21) + 3, 0, (c + 22) + 3, 0, (c + 23) + 3, (c + 24) + 3, 0, (c + 25) + 3, 0]), .inl (0, 56), .inl (0, 40), .inl (0, 12), .inl (0, 3), .inl (3, 6), .inr (0, [0, (c + 27) + 3, 0, (c + 28) + 3, 0, (c + 29) + 3, (c + 30) + 3, 0, (c + 31) + 3, 0]), .inl (0, 56), .inl (0, 40), .inl (0, 12), .inl (0, 3), .inl (3, 6), .inl (0, 2), .inr (3, [0, (c + 34) + 3, (c + 35) + 3, (c + 36) + 3, (c + 37) + 3]), .inl (0, 16), .inl (0, 16), .inl (0, 16), .inl (0, 128), .inr (3, [0, (c + 39) + 3, (c + 40) + 3, (c + 41) + 3, (c + 42) + 3]), .inl (0, 16), .inl (0, 16), .inl (0, 16), .inl (0, 128)]) _ _ _ _
  refine gb_aload_n d_X10_init_94 rfl ?_
  refine gb_newP (n := 43) hc rfl n_X10_42 (Nat.le_of_ble_eq_true rfl) (Nat.le_of_ble_eq_true rfl) d_X10_init_95 ?_
  show gb_J Γ M_X10_init _ _ _ _ (pre ++ [.inr (10, [(c + 1) + 3, (c + 7) + 3, (c + 13) + 3, (c + 19) + 3, (c + 32) + 3, (c + 33) + 3, (c + 38) + 3, 2, 2, 2, 2, 2, 2, 2, 2, 0, 0, 0, 0]), .inr (0, [0, (c + 2) + 3, 0, (c + 3) + 3, 0, (c + 4) + 3, (c + 5) + 3, 0, (c + 6) + 3, 0]), .inl (0, 56), .inl (0, 40), .inl (0, 12), .inl (0, 3), .inl (3, 6), .inr (0, [0, (c + 8) + 3, 0, (c + 9) + 3, 0, (c + 10) + 3, (c + 11) + 3, 0, (c + 12) + 3, 0]), .inl (0, 56), .inl (0, 40), .inl (0, 12), .inl (0, 3), .inl (3, 6), .inr (0, [0, (c + 14) + 3, 0, (c + 15) + 3, 0, (c + 16) + 3, (c + 17) + 3, 0, (c + 18) + 3, 0]), .inl (0, 56), .inl (0, 40), .inl (0, 12), .inl (0, 3), .inl (3, 6), .inl (4, 2), .inr (0, [0, (c + 21) + 3, 0, (c + 22) + 3, 0, (c + 23) + 3, (c + 24) + 3, 0, (c + 25) + 3, 0]), .inl (0, 56), .inl (0, 40), .inl (0, 12), .inl (0, 3), .inl (3, 6), .inr (0, [0, (c + 27) + 3, 0, (c + 28) + 3, 0, (c + 29) + 3, (c + 30) + 3, 0, (c + 31) + 3, 0]), .inl (0, 56), .inl (0, 40), .inl (0, 12), .inl (0, 3), .inl (3, 6), .inl (0, 2), .inr (3, [0, (c + 34) + 3, (c + 35) + 3, (c + 36) + 3, (c + 37) + 3]), .inl (0, 16), .inl (0, 16), .inl (0, 16), .inl (0, 128), .inr (3, [0, (c + 39) + 3, (c + 40) + 3, (c + 41) + 3, (c + 42) + 3]), .inl (0, 16), .inl (0, 16), .inl (0, 16), .inl (0, 128), .inr (9, [2, 0, 0, 0, 0])]) _ _ _ _
  generalize hg19 : gb_z g18 (c + 43) = g19
  refine gb_dup d_X10_init_98 rfl ?_
  refine gb_cINn (As := []) (rest := [.ref (c + 43), .ref c]) m_X10_44 (ti_X9_init (Γ := Γ) (pre := pre ++ [.inr (10, [(c + 1) + 3, (c + 7) + 3, (c + 13) + 3, (c + 19) + 3, (c + 32) + 3, (c + 33) + 3, (c + 38) + 3, 2, 2, 2, 2, 2, 2, 2, 2, 0, 0, 0, 0]), .inr (0, [0, (c + 2) + 3, 0, (c + 3) + 3, 0, (c + 4) + 3, (c + 5) + 3, 0, (c + 6) + 3, 0]), .inl (0, 56), .inl (0, 40), .inl (0, 12), .inl (0, 3), .inl (3, 6), .inr (0, [0, (c + 8) + 3, 0, (c + 9) + 3, 0, (c + 10) + 3, (c + 11) + 3, 0, (c + 12) + 3, 0]), .inl (0, 56), .inl (0, 40), .inl (0, 12), .inl (0, 3), .inl (3, 6), .inr (0, [0, (c + 14) + 3, 0, (c + 15) + 3, 0, (c + 16) + 3, (c + 17) + 3, 0, (c + 18) + 3, 0]), .inl (0, 56), .inl (0, 40), .inl (0, 12), .inl (0, 3), .inl (3, 6), .inl (4, 2), .inr (0, [0, (c + 21) + 3, 0, (c + 22) + 3, 0, (c + 23) + 3, (c + 24) + 3, 0, (c + 25) + 3, 0]), .inl (0, 56), .inl (0, 40), .inl (0, 12), .inl (0, 3), .inl (3, 6), .inr (0, [0, (c + 27) + 3, 0, (c + 28) + 3, 0, (c + 29) + 3, (c + 30) + 3, 0, (c + 31) + 3, 0]), .inl (0, 56), .inl (0, 40), .inl (0, 12), .inl (0, 3), .inl (3, 6), .inl (0, 2), .inr (3, [0, (c + 34) + 3, (c + 35) + 3, (c + 36) + 3, (c + 37) + 3]), .inl (0, 16), .inl (0, 16), .inl (0, 16), .inl (0, 128), .inr (3, [0, (c + 39) + 3, (c + 40) + 3, (c + 41) + 3, (c + 42) + 3]), .inl (0, 16), .inl (0, 16), .inl (0, 16), .inl (0, 128)]) (c := c + 43)  (by rw [List.length_append, hc]; rfl) (by rw [List.append_assoc]; rfl)) (Nat.le_of_ble_eq_true rfl) (Nat.le_of_ble_eq_true rfl) (Nat.le_of_ble_eq_true rfl) rfl rfl (Nat.le_of_ble_eq_true rfl) d_X10_init_99 ?_
  rw [List.append_assoc]
  show gb_J Γ M_X10_init _ _ _ _ (pre ++ [.inr (10, [(c + 1) + 3, (c + 7) + 3, (c + 13) + 3, (c + 19) + 3, (c + 32) + 3, (c + 33) + 3, (c + 38) + 3, 2, 2, 2, 2, 2, 2, 2, 2, 0, 0, 0, 0]), .inr (0, [0, (c + 2) + 3, 0, (c + 3) + 3, 0, (c + 4) + 3, (c + 5) + 3, 0, (c + 6) + 3, 0]), .inl (0, 56), .inl (0, 40), .inl (0, 12), .inl (0, 3), .inl (3, 6), .inr (0, [0, (c + 8) + 3, 0, (c + 9) + 3, 0, (c + 10) + 3, (c + 11) + 3, 0, (c + 12) + 3, 0]), .inl (0, 56), .inl (0, 40), .inl (0, 12), .inl (0, 3), .inl (3, 6), .inr (0, [0, (c + 14) + 3, 0, (c + 15) + 3, 0, (c + 16) + 3, (c + 17) + 3, 0, (c + 18) + 3, 0]), .inl (0, 56), .inl (0, 40), .inl (0, 12), .inl (0, 3), .inl (3, 6), .inl (4, 2), .inr (0, [0, (c + 21) + 3, 0, (c + 22) + 3, 0, (c + 23) + 3, (c + 24) + 3, 0, (c + 25) + 3, 0]), .inl (0, 56), .inl (0, 40), .inl (0, 12), .inl (0, 3), .inl (3, 6), .inr (0, [0, (c + 27) + 3, 0, (c + 28) + 3, 0, (c + 29) + 3, (c + 30) + 3, 0, (c + 31) + 3, 0]), .inl (0, 56), .inl (0, 40), .inl (0, 12), .inl (0, 3), .inl (3, 6), .inl (0, 2), .inr (3, [0, (c + 34) + 3, (c + 35) + 3, (c + 36) + 3, (c + 37) + 3]), .inl (0, 16), .inl (0, 16), .inl (0, 16), .inl (0, 128), .inr (3, [0, (c + 39) + 3, (c + 40) + 3, (c + 41) + 3, (c + 42) + 3]), .inl (0, 16), .inl (0, 16), .inl (0, 16), .inl (0, 128), .inr (9, [(c + 44) + 3, 0, 0, 0, 0]), .inl (0, 400)]) _ _ _ _
  generalize hg20 : gi_X9_init (c + 43) g19 = g20
  refine gb_putrP (i := 0) hc rfl f_X10_45 (fun _ => ⟨rfl, rfl⟩) (Nat.le_of_ble_eq_true rfl) (fun _ => rfl) (fun _ => rfl) d_X10_init_102 ?_
  show gb_J Γ M_X10_init _ _ _ _ (pre ++ [.inr (10, [(c + 1) + 3, (c + 7) + 3, (c + 13) + 3, (c + 19) + 3, (c + 32) + 3, (c + 33) + 3, (c + 38) + 3, (c + 43) + 3, 2, 2, 2, 2, 2, 2, 2, 0, 0, 0, 0]), .inr (0, [0, (c + 2) + 3, 0, (c + 3) + 3, 0, (c + 4) + 3, (c + 5) + 3, 0, (c + 6) + 3, 0]), .inl (0, 56), .inl (0, 40), .inl (0, 12), .inl (0, 3), .inl (3, 6), .inr (0, [0, (c + 8) + 3, 0, (c + 9) + 3, 0, (c + 10) + 3, (c + 11) + 3, 0, (c + 12) + 3, 0]), .inl (0, 56), .inl (0, 40), .inl (0, 12), .inl (0, 3), .inl (3, 6), .inr (0, [0, (c + 14) + 3, 0, (c + 15) + 3, 0, (c + 16) + 3, (c + 17) + 3, 0, (c + 18) + 3, 0]), .inl (0, 56), .inl (0, 40), .inl (0, 12), .inl (0, 3), .inl (3, 6), .inl (4, 2), .inr (0, [0, (c + 21) + 3, 0, (c + 22) + 3, 0, (c + 23) + 3, (c + 24) + 3, 0, (c + 25) + 3, 0]), .inl (0, 56), .inl (0, 40), .inl (0, 12), .inl (0, 3), .inl (3, 6), .inr (0, [0, (c + 27) + 3, 0, (c + 28) + 3, 0, (c + 29) + 3, (c + 30) + 3, 0, (c + 31) + 3, 0]), .inl (0, 56), .inl (0, 40), .inl (0, 12), .inl (0, 3), .inl (3, 6), .inl (0, 2), .inr (3, [0, (c + 34) + 3, (c + 35) + 3, (c + 36) + 3, (c + 37) + 3]), .inl (0, 16), .inl (0, 16), .inl (0, 16), .inl (0, 128), .inr (3, [0, (c + 39) + 3, (c + 40) + 3, (c + 41) + 3, (c + 42) + 3]), .inl (0, 16), .inl (0, 16), .inl (0, 16), .inl (0, 128), .inr (9, [(c + 44) + 3, 0, 0, 0, 0]), .inl (0, 400)]) _ _ _ _
  refine gb_aload_n d_X10_init_105 rfl ?_
  refine gb_newP (n := 45) hc rfl n_X10_49 (Nat.le_of_ble_eq_true rfl) (Nat.le_of_ble_eq_true rfl) d_X10_init_106 ?_
  show gb_J Γ M_X10_init _ _ _ _ (pre ++ [.inr (10, [(c + 1) + 3, (c + 7) + 3, (c + 13) + 3, (c + 19) + 3, (c + 32) + 3, (c + 33) + 3, (c + 38) + 3, (c + 43) + 3, 2, 2, 2, 2, 2, 2, 2, 0, 0, 0, 0]), .inr (0, [0, (c + 2) + 3, 0, (c + 3) + 3, 0, (c + 4) + 3, (c + 5) + 3, 0, (c + 6) + 3, 0]), .inl (0, 56), .inl (0, 40), .inl (0, 12), .inl (0, 3), .inl (3, 6), .inr (0, [0, (c + 8) + 3, 0, (c + 9) + 3, 0, (c + 10) + 3, (c + 11) + 3, 0, (c + 12) + 3, 0]), .inl (0, 56), .inl (0, 40), .inl (0, 12), .inl (0, 3), .inl (3, 6), .inr (0, [0, (c + 14) + 3, 0, (c + 15) + 3, 0, (c + 16) + 3, (c + 17) + 3, 0, (c + 18) + 3, 0]), .inl (0, 56), .inl (0, 40), .inl (0, 12), .inl (0, 3), .inl (3, 6), .inl (4, 2), .inr (0, [0, (c + 21) + 3, 0, (c + 22) + 3, 0, (c + 23) + 3, (c + 24) + 3, 0, (c + 25) + 3, 0]), .inl (0, 56), .inl (0, 40), .inl (0, 12), .inl (0, 3), .inl (3, 6), .inr (0, [0, (c + 27) + 3, 0, (c + 28) + 3, 0, (c + 29) + 3, (c + 30) + 3, 0, (c + 31) + 3, 0]), .inl (0, 56), .inl (0, 40), .inl (0, 12), .inl (0, 3), .inl (3, 6), .inl (0, 2), .inr (3, [0, (c + 34) + 3, (c + 35) + 3, (c + 36) + 3, (c + 37) + 3]), .inl (0, 16), .inl (0, 16), .inl (0, 16), .inl (0, 128), .inr (3, [0, (c + 39) + 3, (c + 40) + 3, (c + 41) + 3, (c + 42) + 3]), .inl (0, 16), .inl (0, 16), .inl (0, 16), .inl (0, 128), .inr (9, [(c + 44) + 3, 0, 0, 0, 0]), .inl (0, 400), .inr (8, [2, 2, 0, 0])]) _ _ _ _
  generalize hg21 : gb_z g20 (c + 45) = g21
  refine gb_dup d_X10_init_109 rfl ?_
  refine gb_aload_n d_X10_init_110 rfl ?_
  refine gb_getr (r := (c + 43)) f_X10_45 (gb_at (i := 0) hc rfl) rfl d_X10_init_111 ?_
  refine gb_cIn (As := [.ref (c + 43)]) (rest := [.ref (c + 45), .ref c]) m_X10_51 (ti_X8_init (Γ := Γ) (pre := pre ++ [.inr (10, [(c + 1) + 3, (c + 7) + 3, (c + 13) + 3, (c + 19) + 3, (c + 32) + 3, (c + 33) + 3, (c + 38) + 3, (c + 43) + 3, 2, 2, 2, 2, 2, 2, 2, 0, 0, 0, 0]), .inr (0, [0, (c + 2) + 3, 0, (c + 3) + 3, 0, (c + 4) + 3, (c + 5) + 3, 0, (c + 6) + 3, 0]), .inl (0, 56), .inl (0, 40), .inl (0, 12), .inl (0, 3), .inl (3, 6), .inr (0, [0, (c + 8) + 3, 0, (c + 9) + 3, 0, (c + 10) + 3, (c + 11) + 3, 0, (c + 12) + 3, 0]), .inl (0, 56), .inl (0, 40), .inl (0, 12), .inl (0, 3), .inl (3, 6), .inr (0, [0, (c + 14) + 3, 0, (c + 15) + 3, 0, (c + 16) + 3, (c + 17) + 3, 0, (c + 18) + 3, 0]), .inl (0, 56), .inl (0, 40), .inl (0, 12), .inl (0, 3), .inl (3, 6), .inl (4, 2), .inr (0, [0, (c + 21) + 3, 0, (c + 22) + 3, 0, (c + 23) + 3, (c + 24) + 3, 0, (c + 25) + 3, 0]), .inl (0, 56), .inl (0, 40), .inl (0, 12), .inl (0, 3), .inl (3, 6), .inr (0, [0, (c + 27) + 3, 0, (c + 28) + 3, 0, (c + 29) + 3, (c + 30) + 3, 0, (c + 31) + 3, 0]), .inl (0, 56), .inl (0, 40), .inl (0, 12), .inl (0, 3), .inl (3, 6), .inl (0, 2), .inr (3, [0, (c + 34) + 3, (c + 35) + 3, (c + 36) + 3, (c + 37) + 3]), .inl (0, 16), .inl (0, 16), .inl (0, 16), .inl (0, 128), .inr (3, [0, (c + 39) + 3, (c + 40) + 3, (c + 41) + 3, (c + 42) + 3]), .inl (0, 16), .inl (0, 16), .inl (0, 16), .inl (0, 128), .inr (9, [(c + 44) + 3, 0, 0, 0, 0]), .inl (0, 400)]) (c := c + 45) (c + 43) (by rw [List.length_append, hc]; rfl) (by rw [List.append_assoc]; rfl)) (Nat.le_of_ble_eq_true rfl) (Nat.le_of_ble_eq_true rfl) (Nat.le_of_ble_eq_true rfl) rfl rfl (Nat.le_of_ble_eq_true rfl) d_X10_init_114 ?_
  rw [List.append_assoc]
  show gb_J Γ M_X10_init _ _ _ _ (pre ++ [.inr (10, [(c + 1) + 3, (c + 7) + 3, (c + 13) + 3, (c + 19) + 3, (c + 32) + 3, (c + 33) + 3, (c + 38) + 3, (c + 43) + 3, 2, 2, 2, 2, 2, 2, 2, 0, 0, 0, 0]), .inr (0, [0, (c + 2) + 3, 0, (c + 3) + 3, 0, (c + 4) + 3, (c + 5) + 3, 0, (c + 6) + 3, 0]), .inl (0, 56), .inl (0, 40), .inl (0, 12), .inl (0, 3), .inl (3, 6), .inr (0, [0, (c + 8) + 3, 0, (c + 9) + 3, 0, (c + 10) + 3, (c + 11) + 3, 0, (c + 12) + 3, 0]), .inl (0, 56), .inl (0, 40), .inl (0, 12), .inl (0, 3), .inl (3, 6), .inr (0, [0, (c + 14) + 3, 0, (c + 15) + 3, 0, (c + 16) + 3, (c + 17) + 3, 0, (c + 18) + 3, 0]), .inl (0, 56), .inl (0, 40), .inl (0, 12), .inl (0, 3), .inl (3, 6), .inl (4, 2), .inr (0, [0, (c + 21) + 3, 0, (c + 22) + 3, 0, (c + 23) + 3, (c + 24) + 3, 0, (c + 25) + 3, 0]), .inl (0, 56), .inl (0, 40), .inl (0, 12), .inl (0, 3), .inl (3, 6), .inr (0, [0, (c + 27) + 3, 0, (c + 28) + 3, 0, (c + 29) + 3, (c + 30) + 3, 0, (c + 31) + 3, 0]), .inl (0, 56), .inl (0, 40), .inl (0, 12), .inl (0, 3), .inl (3, 6), .inl (0, 2), .inr (3, [0, (c + 34) + 3, (c + 35) + 3, (c + 36) + 3, (c + 37) + 3]), .inl (0, 16), .inl (0, 16), .inl (0, 16), .inl (0, 128), .inr (3, [0, (c + 39) + 3, (c + 40) + 3, (c + 41) + 3, (c + 42) + 3]), .inl (0, 16), .inl (0, 16), .inl (0, 16), .inl (0, 128), .inr (9, [(c + 44) + 3, 0, 0, 0, 0]), .inl (0, 400), .inr (8, [(c + 43) + 3, (c + 46) + 3, 0, 0]), .inr (7, [0, (c + 47) + 3, (c + 48) + 3, 0, (c + 49) + 3, (c + 50) + 3, (c + 51) + 3, 0]), .inl (0, 400), .inl (0, 400), .inl (0, 12), .inl (0, 12), .inl (0, 37)]) _ _ _ _
  generalize hg22 : gi_X8_init (c + 45) g21 = g22
  refine gb_putrP (i := 0) hc rfl f_X10_54 (fun _ => ⟨rfl, rfl⟩) (Nat.le_of_ble_eq_true rfl) (fun _ => rfl) (fun _ => rfl) d_X10_init_117 ?_
  show gb_J Γ M_X10_init _ _ _ _ (pre ++ [.inr (10, [(c + 1) + 3, (c + 7) + 3, (c + 13) + 3, (c + 19) + 3, (c + 32) + 3, (c + 33) + 3, (c + 38) + 3, (c + 43) + 3, (c + 45) + 3, 2, 2, 2, 2, 2, 2, 0, 0, 0, 0]), .inr (0, [0, (c + 2) + 3, 0, (c + 3) + 3, 0, (c + 4) + 3, (c + 5) + 3, 0, (c + 6) + 3, 0]), .inl (0, 56), .inl (0, 40), .inl (0, 12), .inl (0, 3), .inl (3, 6), .inr (0, [0, (c + 8) + 3, 0, (c + 9) + 3, 0, (c + 10) + 3, (c + 11) + 3, 0, (c + 12) + 3, 0]), .inl (0, 56), .inl (0, 40), .inl (0, 12), .inl (0, 3), .inl (3, 6), .inr (0, [0, (c + 14) + 3, 0, (c + 15) + 3, 0, (c + 16) + 3, (c + 17) + 3, 0, (c + 18) + 3, 0]), .inl (0, 56), .inl (0, 40), .inl (0, 12), .inl (0, 3), .inl (3, 6), .inl (4, 2), .inr (0, [0, (c + 21) + 3, 0, (c + 22) + 3, 0, (c + 23) + 3, (c + 24) + 3, 0, (c + 25) + 3, 0]), .inl (0, 56), .inl (0, 40), .inl (0, 12), .inl (0, 3), .inl (3, 6), .inr (0, [0, (c + 27) + 3, 0, (c + 28) + 3, 0, (c + 29) + 3, (c + 30) + 3, 0, (c + 31) + 3, 0]), .inl (0, 56), .inl (0, 40), .inl (0, 12), .inl (0, 3), .inl (3, 6), .inl (0, 2), .inr (3, [0, (c + 34) + 3, (c + 35) + 3, (c + 36) + 3, (c + 37) + 3]), .inl (0, 16), .inl (0, 16), .inl (0, 16), .inl (0, 128), .inr (3, [0, (c + 39) + 3, (c + 40) + 3, (c + 41) + 3, (c + 42) + 3]), .inl (0, 16), .inl (0, 16), .inl (0, 16), .inl (0, 128), .inr (9, [(c + 44) + 3, 0, 0, 0, 0]), .inl (0, 400), .inr (8, [(c + 43) + 3, (c + 46) + 3, 0, 0]), .inr (7, [0, (c + 47) + 3, (c + 48) + 3, 0, (c + 49) + 3, (c + 50) + 3, (c + 51) + 3, 0]), .inl (0, 400), .inl (0, 400), .inl (0, 12), .inl (0, 12), .inl (0, 37)]) _ _ _ _
  refine gb_aload_n d_X10_init_120 rfl ?_
  refine gb_newP (n := 52) hc rfl n_X10_58 (Nat.le_of_ble_eq_true rfl) (Nat.le_of_ble_eq_true rfl) d_X10_init_121 ?_
  show gb_J Γ M_X10_init _ _ _ _ (pre ++ [.inr (10, [(c + 1) + 3, (c + 7) + 3, (c + 13) + 3, (c + 19) + 3, (c + 32) + 3, (c + 33) + 3, (c + 38) + 3, (c + 43) + 3, (c + 45) + 3, 2, 2, 2, 2, 2, 2, 0, 0, 0, 0]), .inr (0, [0, (c + 2) + 3, 0, (c + 3) + 3, 0, (c + 4) + 3, (c + 5) + 3, 0, (c + 6) + 3, 0]), .inl (0, 56), .inl (0, 40), .inl (0, 12), .inl (0, 3), .inl (3, 6), .inr (0, [0, (c + 8) + 3, 0, (c + 9) + 3, 0, (c + 10) + 3, (c + 11) + 3, 0, (c + 12) + 3, 0]), .inl (0, 56), .inl (0, 40), .inl (0, 12), .inl (0, 3), .inl (3, 6), .inr (0, [0, (c + 14) + 3, 0, (c + 15) + 3, 0, (c + 16) + 3, (c + 17) + 3, 0, (c + 18) + 3, 0]), .inl (0, 56), .inl (0, 40), .inl (0, 12), .inl (0, 3), .inl (3, 6), .inl (4, 2), .inr (0, [0, (c + 21) + 3, 0, (c + 22) + 3, 0, (c + 23) + 3, (c + 24) + 3, 0, (c + 25) + 3, 0]), .inl (0, 56), .inl (0, 40), .inl (0, 12), .inl (0, 3), .inl (3, 6), .inr (0, [0, (c + 27) + 3, 0, (c + 28) + 3, 0, (c + 29) + 3, (c + 30) + 3, 0, (c + 31) + 3, 0]), .inl (0, 56), .inl (0, 40), .inl (0, 12), .inl (0, 3), .inl (3, 6), .inl (0, 2), .inr (3, [0, (c + 34) + 3, (c + 35) + 3, (c + 36) + 3, (c + 37) + 3]), .inl (0, 16), .inl (0, 16), .inl (0, 16), .inl (0, 128), .inr (3, [0, (c + 39) + 3, (c + 40) + 3, (c + 41) + 3, (c + 42) + 3]), .inl (0, 16), .inl (0, 16), .inl (0, 16), .inl (0, 128), .inr (9, [(c + 44) + 3, 0, 0, 0, 0]), .inl (0, 400), .inr (8, [(c + 43) + 3, (c + 46) + 3, 0, 0]), .inr (7, [0, (c + 47) + 3, (c + 48) + 3, 0, (c + 49) + 3, (c + 50) + 3, (c + 51) + 3, 0]), .inl (0, 400), .inl (0, 400), .inl (0, 12), .inl (0, 12), .inl (0, 37), .inr (5, [2])]) _ _ _ _
  generalize hg23 : gb_z g22 (c + 52) = g23
  refine gb_dup d_X10_init_124 rfl ?_
  refine gb_cINn (As := []) (rest := [.ref (c + 52), .ref c]) m_X10_60 (ti_X5_init (Γ := Γ) (pre := pre ++ [.inr (10, [(c + 1) + 3, (c + 7) + 3, (c + 13) + 3, (c + 19) + 3, (c + 32) + 3, (c + 33) + 3, (c + 38) + 3, (c + 43) + 3, (c + 45) + 3, 2, 2, 2, 2, 2, 2, 0, 0, 0, 0]), .inr (0, [0, (c + 2) + 3, 0, (c + 3) + 3, 0, (c + 4) + 3, (c + 5) + 3, 0, (c + 6) + 3, 0]), .inl (0, 56), .inl (0, 40), .inl (0, 12), .inl (0, 3), .inl (3, 6), .inr (0, [0, (c + 8) + 3, 0, (c + 9) + 3, 0, (c + 10) + 3, (c + 11) + 3, 0, (c + 12) + 3, 0]), .inl (0, 56), .inl (0, 40), .inl (0, 12), .inl (0, 3), .inl (3, 6), .inr (0, [0, (c + 14) + 3, 0, (c + 15) + 3, 0, (c + 16) + 3, (c + 17) + 3, 0, (c + 18) + 3, 0]), .inl (0, 56), .inl (0, 40), .inl (0, 12), .inl (0, 3), .inl (3, 6), .inl (4, 2), .inr (0, [0, (c + 21) + 3, 0, (c + 22) + 3, 0, (c + 23) + 3, (c + 24) + 3, 0, (c + 25) + 3, 0]), .inl (0, 56), .inl (0, 40), .inl (0, 12), .inl (0, 3), .inl (3, 6), .inr (0, [0, (c + 27) + 3, 0, (c + 28) + 3, 0, (c + 29) + 3, (c + 30) + 3, 0, (c + 31) + 3, 0]), .inl (0, 56), .inl (0, 40), .inl (0, 12), .inl (0, 3), .inl (3, 6), .inl (0, 2), .inr (3, [0, (c + 34) + 3, (c + 35) + 3, (c + 36) + 3, (c + 37) + 3]), .inl (0, 16), .inl (0, 16), .inl (0, 16), .inl (0, 128), .inr (3, [0, (c + 39) + 3, (c + 40) + 3, (c + 41) + 3, (c + 42) + 3]), .inl (0, 16), .inl (0, 16), .inl (0, 16), .inl (0, 128), .inr (9, [(c + 44) + 3, 0, 0, 0, 0]), .inl (0, 400), .inr (8, [(c + 43) + 3, (c + 46) + 3, 0, 0]), .inr (7, [0, (c + 47) + 3, (c + 48) + 3, 0, (c + 49) + 3, (c + 50) + 3, (c + 51) + 3, 0]), .inl (0, 400), .inl (0, 400), .inl (0, 12), .inl (0, 12), .inl (0, 37)]) (c := c + 52)  (by rw [List.length_append, hc]; rfl) (by rw [List.append_assoc]; rfl)) (Nat.le_of_ble_eq_true rfl) (Nat.le_of_ble_eq_true rfl) (Nat.le_of_ble_eq_true rfl) rfl rfl (Nat.le_of_ble_eq_true rfl) d_X10_init_125 ?_
  rw [List.append_assoc]
  show gb_J Γ M_X10_init _ _ _ _ (pre ++ [.inr (10, [(c + 1) + 3, (c + 7) + 3, (c + 13) + 3, (c + 19) + 3, (c + 32) + 3, (c + 33) + 3, (c + 38) + 3, (c + 43) + 3, (c + 45) + 3, 2, 2, 2, 2, 2, 2, 0, 0, 0, 0]), .inr (0, [0, (c + 2) + 3, 0, (c + 3) + 3, 0, (c + 4) + 3, (c + 5) + 3, 0, (c + 6) + 3, 0]), .inl (0, 56), .inl (0, 40), .inl (0, 12), .inl (0, 3), .inl (3, 6), .inr (0, [0, (c + 8) + 3, 0, (c + 9) + 3, 0, (c + 10) + 3, (c + 11) + 3, 0, (c + 12) + 3, 0]), .inl (0, 56), .inl (0, 40), .inl (0, 12), .inl (0, 3), .inl (3, 6), .inr (0, [0, (c + 14) + 3, 0, (c + 15) + 3, 0, (c + 16) + 3, (c + 17) + 3, 0, (c + 18) + 3, 0]), .inl (0, 56), .inl (0, 40), .inl (0, 12), .inl (0, 3), .inl (3, 6), .inl (4, 2), .inr (0, [0, (c + 21) + 3, 0, (c + 22) + 3, 0, (c + 23) + 3, (c + 24) + 3, 0, (c + 25) + 3, 0]), .inl (0, 56), .inl (0, 40), .inl (0, 12), .inl (0, 3), .inl (3, 6), .inr (0, [0, (c + 27) + 3, 0, (c + 28) + 3, 0, (c + 29) + 3, (c + 30) + 3, 0, (c + 31) + 3, 0]), .inl (0, 56), .inl (0, 40), .inl (0, 12), .inl (0, 3), .inl (3, 6), .inl (0, 2), .inr (3, [0, (c + 34) + 3, (c + 35) + 3, (c + 36) + 3, (c + 37) + 3]), .inl (0, 16), .inl (0, 16), .inl (0, 16), .inl (0, 128), .inr (3, [0, (c + 39) + 3, (c + 40) + 3, (c + 41) + 3, (c + 42) + 3]), .inl (0, 16), .inl (0, 16), .inl (0, 16), .inl (0, 128), .inr (9, [(c + 44) + 3, 0, 0, 0, 0]), .inl (0, 400), .inr (8, [(c + 43) + 3, (c + 46) + 3, 0, 0]), .inr (7, [0, (c + 47) + 3, (c + 48) + 3, 0, (c + 49) + 3, (c + 50) + 3, (c + 51) + 3, 0]), .inl (0, 400), .inl (0, 400), .inl (0, 12), .inl (0, 12), .inl (0, 37), .inr (5, [(c + 53) + 3]), .inl (0, 51)]) _ _ _ _
  generalize hg24 : gi_X5_init (c + 52) g23 = g24
  refine gb_putrP (i := 0) hc rfl f_X10_61 (fun _ => ⟨rfl, rfl⟩) (Nat.le_of_ble_eq_true rfl) (fun _ => rfl) (fun _ => rfl) d_X10_init_128 ?_
  show gb_J Γ M_X10_init _ _ _ _ (pre ++ [.inr (10, [(c + 1) + 3, (c + 7) + 3, (c + 13) + 3, (c + 19) + 3, (c + 32) + 3, (c + 33) + 3, (c + 38) + 3, (c + 43) + 3, (c + 45) + 3, (c + 52) + 3, 2, 2, 2, 2, 2, 0, 0, 0, 0]), .inr (0, [0, (c + 2) + 3, 0, (c + 3) + 3, 0, (c + 4) + 3, (c + 5) + 3, 0, (c + 6) + 3, 0]), .inl (0, 56), .inl (0, 40), .inl (0, 12), .inl (0, 3), .inl (3, 6), .inr (0, [0, (c + 8) + 3, 0, (c + 9) + 3, 0, (c + 10) + 3, (c + 11) + 3, 0, (c + 12) + 3, 0]), .inl (0, 56), .inl (0, 40), .inl (0, 12), .inl (0, 3), .inl (3, 6), .inr (0, [0, (c + 14) + 3, 0, (c + 15) + 3, 0, (c + 16) + 3, (c + 17) + 3, 0, (c + 18) + 3, 0]), .inl (0, 56), .inl (0, 40), .inl (0, 12), .inl (0, 3), .inl (3, 6), .inl (4, 2), .inr (0, [0, (c + 21) + 3, 0, (c + 22) + 3, 0, (c + 23) + 3, (c + 24) + 3, 0, (c + 25) + 3, 0]), .inl (0, 56), .inl (0, 40), .inl (0, 12), .inl (0, 3), .inl (3, 6), .inr (0, [0, (c + 27) + 3, 0, (c + 28) + 3, 0, (c + 29) + 3, (c + 30) + 3, 0, (c + 31) + 3, 0]), .inl (0, 56), .inl (0, 40), .inl (0, 12), .inl (0, 3), .inl (3, 6), .inl (0, 2), .inr (3, [0, (c + 34) + 3, (c + 35) + 3, (c + 36) + 3, (c + 37) + 3]), .inl (0, 16), .inl (0, 16), .inl (0, 16), .inl (0, 128), .inr (3, [0, (c + 39) + 3, (c + 40) + 3, (c + 41) + 3, (c + 42) + 3]), .inl (0, 16), .inl (0, 16), .inl (0, 16), .inl (0, 128), .inr (9, [(c + 44) + 3, 0, 0, 0, 0]), .inl (0, 400), .inr (8, [(c + 43) + 3, (c + 46) + 3, 0, 0]), .inr (7, [0, (c + 47) + 3, (c + 48) + 3, 0, (c + 49) + 3, (c + 50) + 3, (c + 51) + 3, 0]), .inl (0, 400), .inl (0, 400), .inl (0, 12), .inl (0, 12), .inl (0, 37), .inr (5, [(c + 53) + 3]), .inl (0, 51)]) _ _ _ _
  refine gb_aload_n d_X10_init_131 rfl ?_
  refine gb_newP (n := 54) hc rfl n_X10_65 (Nat.le_of_ble_eq_true rfl) (Nat.le_of_ble_eq_true rfl) d_X10_init_132 ?_
  show gb_J Γ M_X10_init _ _ _ _ (pre ++ [.inr (10, [(c + 1) + 3, (c + 7) + 3, (c + 13) + 3, (c + 19) + 3, (c + 32) + 3, (c + 33) + 3, (c + 38) + 3, (c + 43) + 3, (c + 45) + 3, (c + 52) + 3, 2, 2, 2, 2, 2, 0, 0, 0, 0]), .inr (0, [0, (c + 2) + 3, 0, (c + 3) + 3, 0, (c + 4) + 3, (c + 5) + 3, 0, (c + 6) + 3, 0]), .inl (0, 56), .inl (0, 40), .inl (0, 12), .inl (0, 3), .inl (3, 6), .inr (0, [0, (c + 8) + 3, 0, (c + 9) + 3, 0, (c + 10) + 3, (c + 11) + 3, 0, (c + 12) + 3, 0]), .inl (0, 56), .inl (0, 40), .inl (0, 12), .inl (0, 3), .inl (3, 6), .inr (0, [0, (c + 14) + 3, 0, (c + 15) + 3, 0, (c + 16) + 3, (c + 17) + 3, 0, (c + 18) + 3, 0]), .inl (0, 56), .inl (0, 40), .inl (0, 12), .inl (0, 3), .inl (3, 6), .inl (4, 2), .inr (0, [0, (c + 21) + 3, 0, (c + 22) + 3, 0, (c + 23) + 3, (c + 24) + 3, 0, (c + 25) + 3, 0]), .inl (0, 56), .inl (0, 40), .inl (0, 12), .inl (0, 3), .inl (3, 6), .inr (0, [0, (c + 27) + 3, 0, (c + 28) + 3, 0, (c + 29) + 3, (c + 30) + 3, 0, (c + 31) + 3, 0]), .inl (0, 56), .inl (0, 40), .inl (0, 12), .inl (0, 3), .inl (3, 6), .inl (0, 2), .inr (3, [0, (c + 34) + 3, (c + 35) + 3, (c + 36) + 3, (c + 37) + 3]), .inl (0, 16), .inl (0, 16), .inl (0, 16), .inl (0, 128), .inr (3, [0, (c + 39) + 3, (c + 40) + 3, (c + 41) + 3, (c + 42) + 3]), .inl (0, 16), .inl (0, 16), .inl (0, 16), .inl (0, 128), .inr (9, [(c + 44) + 3, 0, 0, 0, 0]), .inl (0, 400), .inr (8, [(c + 43) + 3, (c + 46) + 3, 0, 0]), .inr (7, [0, (c + 47) + 3, (c + 48) + 3, 0, (c + 49) + 3, (c + 50) + 3, (c + 51) + 3, 0]), .inl (0, 400), .inl (0, 400), .inl (0, 12), .inl (0, 12), .inl (0, 37), .inr (5, [(c + 53) + 3]), .inl (0, 51), .inr (4, [2, 2, 2])]) _ _ _ _
  generalize hg25 : gb_z g24 (c + 54) = g25
  refine gb_dup d_X10_init_135 rfl ?_
  refine gb_aload_n d_X10_init_136 rfl ?_
  refine gb_getr (r := (c + 52)) f_X10_61 (gb_at (i := 0) hc rfl) rfl d_X10_init_137 ?_
  refine gb_cIn (As := [.ref (c + 52)]) (rest := [.ref (c + 54), .ref c]) m_X10_67 (ti_X4_init (Γ := Γ) (pre := pre ++ [.inr (10, [(c + 1) + 3, (c + 7) + 3, (c + 13) + 3, (c + 19) + 3, (c + 32) + 3, (c + 33) + 3, (c + 38) + 3, (c + 43) + 3, (c + 45) + 3, (c + 52) + 3, 2, 2, 2, 2, 2, 0, 0, 0, 0]), .inr (0, [0, (c + 2) + 3, 0, (c + 3) + 3, 0, (c + 4) + 3, (c + 5) + 3, 0, (c + 6) + 3, 0]), .inl (0, 56), .inl (0, 40), .inl (0, 12), .inl (0, 3), .inl (3, 6), .inr (0, [0, (c + 8) + 3, 0, (c + 9) + 3, 0, (c + 10) + 3, (c + 11) + 3, 0, (c + 12) + 3, 0]), .inl (0, 56), .inl (0, 40), .inl (0, 12), .inl (0, 3), .inl (3, 6), .inr (0, [0, (c + 14) + 3, 0, (c + 15) + 3, 0, (c + 16) + 3, (c + 17) + 3, 0, (c + 18) + 3, 0]), .inl (0, 56), .inl (0, 40), .inl (0, 12), .inl (0, 3), .inl (3, 6), .inl (4, 2), .inr (0, [0, (c + 21) + 3, 0, (c + 22) + 3, 0, (c + 23) + 3, (c + 24) + 3, 0, (c + 25) + 3, 0]), .inl (0, 56), .inl (0, 40), .inl (0, 12), .inl (0, 3), .inl (3, 6), .inr (0, [0, (c + 27) + 3, 0, (c + 28) + 3, 0, (c + 29) + 3, (c + 30) + 3, 0, (c + 31) + 3, 0]), .inl (0, 56), .inl (0, 40), .inl (0, 12), .inl (0, 3), .inl (3, 6), .inl (0, 2), .inr (3, [0, (c + 34) + 3, (c + 35) + 3, (c + 36) + 3, (c + 37) + 3]), .inl (0, 16), .inl (0, 16), .inl (0, 16), .inl (0, 128), .inr (3, [0, (c + 39) + 3, (c + 40) + 3, (c + 41) + 3, (c + 42) + 3]), .inl (0, 16), .inl (0, 16), .inl (0, 16), .inl (0, 128), .inr (9, [(c + 44) + 3, 0, 0, 0, 0]), .inl (0, 400), .inr (8, [(c + 43) + 3, (c + 46) + 3, 0, 0]), .inr (7, [0, (c + 47) + 3, (c + 48) + 3, 0, (c + 49) + 3, (c + 50) + 3, (c + 51) + 3, 0]), .inl (0, 400), .inl (0, 400), .inl (0, 12), .inl (0, 12), .inl (0, 37), .inr (5, [(c + 53) + 3]), .inl (0, 51)]) (c := c + 54) (c + 52) (by rw [List.length_append, hc]; rfl) (by rw [List.append_assoc]; rfl)) (Nat.le_of_ble_eq_true rfl) (Nat.le_of_ble_eq_true rfl) (Nat.le_of_ble_eq_true rfl) rfl rfl (Nat.le_of_ble_eq_true rfl) d_X10_init_140 ?_
  rw [List.append_assoc]
  show gb_J Γ M_X10_init _ _ _ _ (pre ++ [.inr (10, [(c + 1) + 3, (c + 7) + 3, (c + 13) + 3, (c + 19) + 3, (c + 32) + 3, (c + 33) + 3, (c + 38) + 3, (c + 43) + 3, (c + 45) + 3, (c + 52) + 3, 2, 2, 2, 2, 2, 0, 0, 0, 0]), .inr (0, [0, (c + 2) + 3, 0, (c + 3) + 3, 0, (c + 4) + 3, (c + 5) + 3, 0, (c + 6) + 3, 0]), .inl (0, 56), .inl (0, 40), .inl (0, 12), .inl (0, 3), .inl (3, 6), .inr (0, [0, (c + 8) + 3, 0, (c + 9) + 3, 0, (c + 10) + 3, (c + 11) + 3, 0, (c + 12) + 3, 0]), .inl (0, 56), .inl (0, 40), .inl (0, 12), .inl (0, 3), .inl (3, 6), .inr (0, [0, (c + 14) + 3, 0, (c + 15) + 3, 0, (c + 16) + 3, (c + 17) + 3, 0, (c + 18) + 3, 0]), .inl (0, 56), .inl (0, 40), .inl (0, 12), .inl (0, 3), .inl (3, 6), .inl (4, 2), .inr (0, [0, (c + 21) + 3, 0, (c + 22) + 3, 0, (c + 23) + 3, (c + 24) + 3, 0, (c + 25) + 3, 0]), .inl (0, 56), .inl (0, 40), .inl (0, 12), .inl (0, 3), .inl (3, 6), .inr (0, [0, (c + 27) + 3, 0, (c + 28) + 3, 0, (c + 29) + 3, (c + 30) + 3, 0, (c + 31) + 3, 0]), .inl (0, 56), .inl (0, 40), .inl (0, 12), .inl (0, 3), .inl (3, 6), .inl (0, 2), .inr (3, [0, (c + 34) + 3, (c + 35) + 3, (c + 36) + 3, (c + 37) + 3]), .inl (0, 16), .inl (0, 16), .inl (0, 16), .inl (0, 128), .inr (3, [0, (c + 39) + 3, (c + 40) + 3, (c + 41) + 3, (c + 42) + 3]), .inl (0, 16), .inl (0, 16), .inl (0, 16), .inl (0, 128), .inr (9, [(c + 44) + 3, 0, 0, 0, 0]), .inl (0, 400), .inr (8, [(c + 43) + 3, (c + 46) + 3, 0, 0]), .inr (7, [0, (c + 47) + 3, (c + 48) + 3, 0, (c + 49) + 3, (c + 50) + 3, (c + 51) + 3, 0]), .inl (0, 400), .inl (0, 400), .inl (0, 12), .inl (0, 12), .inl (0, 37), .inr (5, [(c + 53) + 3]), .inl (0, 51), .inr (4, [(c + 52) + 3, (c + 55) + 3, (c + 56) + 3]), .inl (0, 9), .inl (0, 8)]) _ _ _ _
  generalize hg26 : gi_X4_init (c + 54) g25 = g26
  refine gb_putrP (i := 0) hc rfl f_X10_70 (fun _ => ⟨rfl, rfl⟩) (Nat.le_of_ble_eq_true rfl) (fun _ => rfl) (fun _ => rfl) d_X10_init_143 ?_
  show gb_J Γ M_X10_init _ _ _ _ (pre ++ [.inr (10, [(c + 1) + 3, (c + 7) + 3, (c + 13) + 3, (c + 19) + 3, (c + 32) + 3, (c + 33) + 3, (c + 38) + 3, (c + 43) + 3, (c + 45) + 3, (c + 52) + 3, (c + 54) + 3, 2, 2, 2, 2, 0, 0, 0, 0]), .inr (0, [0, (c + 2) + 3, 0, (c + 3) + 3, 0, (c + 4) + 3, (c + 5) + 3, 0, (c + 6) + 3, 0]), .inl (0, 56), .inl (0, 40), .inl (0, 12), .inl (0, 3), .inl (3, 6), .inr (0, [0, (c + 8) + 3, 0, (c + 9) + 3, 0, (c + 10) + 3, (c + 11) + 3, 0, (c + 12) + 3, 0]), .inl (0, 56), .inl (0, 40), .inl (0, 12), .inl (0, 3), .inl (3, 6), .inr (0, [0, (c + 14) + 3, 0, (c + 15) + 3, 0, (c + 16) + 3, (c + 17) + 3, 0, (c + 18) + 3, 0]), .inl (0, 56), .inl (0, 40), .inl (0, 12), .inl (0, 3), .inl (3, 6), .inl (4, 2), .inr (0, [0, (c + 21) + 3, 0, (c + 22) + 3, 0, (c + 23) + 3, (c + 24) + 3, 0, (c + 25) + 3, 0]), .inl (0, 56), .inl (0, 40), .inl (0, 12), .inl (0, 3), .inl (3, 6), .inr (0, [0, (c + 27) + 3, 0, (c + 28) + 3, 0, (c + 29) + 3, (c + 30) + 3, 0, (c + 31) + 3, 0]), .inl (0, 56), .inl (0, 40), .inl (0, 12), .inl (0, 3), .inl (3, 6), .inl (0, 2), .inr (3, [0, (c + 34) + 3, (c + 35) + 3, (c + 36) + 3, (c + 37) + 3]), .inl (0, 16), .inl (0, 16), .inl (0, 16), .inl (0, 128), .inr (3, [0, (c + 39) + 3, (c + 40) + 3, (c + 41) + 3, (c + 42) + 3]), .inl (0, 16), .inl (0, 16), .inl (0, 16), .inl (0, 128), .inr (9, [(c + 44) + 3, 0, 0, 0, 0]), .inl (0, 400), .inr (8, [(c + 43) + 3, (c + 46) + 3, 0, 0]), .inr (7, [0, (c + 47) + 3, (c + 48) + 3, 0, (c + 49) + 3, (c + 50) + 3, (c + 51) + 3, 0]), .inl (0, 400), .inl (0, 400), .inl (0, 12), .inl (0, 12), .inl (0, 37), .inr (5, [(c + 53) + 3]), .inl (0, 51), .inr (4, [(c + 52) + 3, (c + 55) + 3, (c + 56) + 3]), .inl (0, 9), .inl (0, 8)]) _ _ _ _
  refine gb_aload_n d_X10_init_146 rfl ?_
  refine gb_newP (n := 57) hc rfl n_X10_74 (Nat.le_of_ble_eq_true rfl) (Nat.le_of_ble_eq_true rfl) d_X10_init_147 ?_
  show gb_J Γ M_X10_init _ _ _ _ (pre ++ [.inr (10, [(c + 1) + 3, (c + 7) + 3, (c + 13) + 3, (c + 19) + 3, (c + 32) + 3, (c + 33) + 3, (c + 38) + 3, (c + 43) + 3, (c + 45) + 3, (c + 52) + 3, (c + 54) + 3, 2, 2, 2, 2, 0, 0, 0, 0]), .inr (0, [0, (c + 2) + 3, 0, (c + 3) + 3, 0, (c + 4) + 3, (c + 5) + 3, 0, (c + 6) + 3, 0]), .inl (0, 56), .inl (0, 40), .inl (0, 12), .inl (0, 3), .inl (3, 6), .inr (0, [0, (c + 8) + 3, 0, (c + 9) + 3, 0, (c + 10) + 3, (c + 11) + 3, 0, (c + 12) + 3, 0]), .inl (0, 56), .inl (0, 40), .inl (0, 12), .inl (0, 3), .inl (3, 6), .inr (0, [0, (c + 14) + 3, 0, (c + 15) + 3, 0, (c + 16) + 3, (c + 17) + 3, 0, (c + 18) + 3, 0]), .inl (0, 56), .inl (0, 40), .inl (0, 12), .inl (0, 3), .inl (3, 6), .inl (4, 2), .inr (0, [0, (c + 21) + 3, 0, (c + 22) + 3, 0, (c + 23) + 3, (c + 24) + 3, 0, (c + 25) + 3, 0]), .inl (0, 56), .inl (0, 40), .inl (0, 12), .inl (0, 3), .inl (3, 6), .inr (0, [0, (c + 27) + 3, 0, (c + 28) + 3, 0, (c + 29) + 3, (c + 30) + 3, 0, (c + 31) + 3, 0]), .inl (0, 56), .inl (0, 40), .inl (0, 12), .inl (0, 3), .inl (3, 6), .inl (0, 2), .inr (3, [0, (c + 34) + 3, (c + 35) + 3, (c + 36) + 3, (c + 37) + 3]), .inl (0, 16), .inl (0, 16), .inl (0, 16), .inl (0, 128), .inr (3, [0, (c + 39) + 3, (c + 40) + 3, (c + 41) + 3, (c + 42) + 3]), .inl (0, 16), .inl (0, 16), .inl (0, 16), .inl (0, 128), .inr (9, [(c + 44) + 3, 0, 0, 0, 0]), .inl (0, 400), .inr (8, [(c + 43) + 3, (c + 46) + 3, 0, 0]), .inr (7, [0, (c + 47) + 3, (c + 48) + 3, 0, (c + 49) + 3, (c + 50) + 3, (c + 51) + 3, 0]), .inl (0, 400), .inl (0, 400), .inl (0, 12), .inl (0, 12), .inl (0, 37), .inr (5, [(c + 53) + 3]), .inl (0, 51), .inr (4, [(c + 52) + 3, (c + 55) + 3, (c + 56) + 3]), .inl (0, 9), .inl (0, 8), .inr (1, [2, 0, 2, 2, 2, 2, 2])]) _ _ _ _
  generalize hg27 : gb_z g26 (c + 57) = g27
  refine gb_dup d_X10_init_150 rfl ?_
  refine gb_aload_n d_X10_init_151 rfl ?_
  refine gb_getr (r := (c + 54)) f_X10_70 (gb_at (i := 0) hc rfl) rfl d_X10_init_152 ?_
  refine gb_cIn (As := [.ref (c + 54)]) (rest := [.ref (c + 57), .ref c]) m_X10_76 (ti_X1_init (Γ := Γ) (pre := pre ++ [.inr (10, [(c + 1) + 3, (c + 7) + 3, (c + 13) + 3, (c + 19) + 3, (c + 32) + 3, (c + 33) + 3, (c + 38) + 3, (c + 43) + 3, (c + 45) + 3, (c + 52) + 3, (c + 54) + 3, 2, 2, 2, 2, 0, 0, 0, 0]), .inr (0, [0, (c + 2) + 3, 0, (c + 3) + 3, 0, (c + 4) + 3, (c + 5) + 3, 0, (c + 6) + 3, 0]), .inl (0, 56), .inl (0, 40), .inl (0, 12), .inl (0, 3), .inl (3, 6), .inr (0, [0, (c + 8) + 3, 0, (c + 9) + 3, 0, (c + 10) + 3, (c + 11) + 3, 0, (c + 12) + 3, 0]), .inl (0, 56), .inl (0, 40), .inl (0, 12), .inl (0, 3), .inl (3, 6), .inr (0, [0, (c + 14) + 3, 0, (c + 15) + 3, 0, (c + 16) + 3, (c + 17) + 3, 0, (c + 18) + 3, 0]), .inl (0, 56), .inl (0, 40), .inl (0, 12), .inl (0, 3), .inl (3, 6), .inl (4, 2), .inr (0, [0, (c + 21) + 3, 0, (c + 22) + 3, 0, (c + 23) + 3, (c + 24) + 3, 0, (c + 25) + 3, 0]), .inl (0, 56), .inl (0, 40), .inl (0, 12), .inl (0, 3), .inl (3, 6), .inr (0, [0, (c + 27) + 3, 0, (c + 28) + 3, 0, (c + 29) + 3, (c + 30) + 3, 0, (c + 31) + 3, 0]), .inl (0, 56), .inl (0, 40), .inl (0, 12), .inl (0, 3), .inl (3, 6), .inl (0, 2), .inr (3, [0, (c + 34) + 3, (c + 35) + 3, (c + 36) + 3, (c + 37) + 3]), .inl (0, 16), .inl (0, 16), .inl (0, 16), .inl (0, 128), .inr (3, [0, (c + 39) + 3, (c + 40) + 3, (c + 41) + 3, (c + 42) + 3]), .inl (0, 16), .inl (0, 16), .inl (0, 16), .inl (0, 128), .inr (9, [(c + 44) + 3, 0, 0, 0, 0]), .inl (0, 400), .inr (8, [(c + 43) + 3, (c + 46) + 3, 0, 0]), .inr (7, [0, (c + 47) + 3, (c + 48) + 3, 0, (c + 49) + 3, (c + 50) + 3, (c + 51) + 3, 0]), .inl (0, 400), .inl (0, 400), .inl (0, 12), .inl (0, 12), .inl (0, 37), .inr (5, [(c + 53) + 3]), .inl (0, 51), .inr (4, [(c + 52) + 3, (c + 55) + 3, (c + 56) + 3]), .inl (0, 9), .inl (0, 8)]) (c := c + 57) (c + 54) (by rw [List.length_append, hc]; rfl) (by rw [List.append_assoc]; rfl)) (Nat.le_of_ble_eq_true rfl) (Nat.le_of_ble_eq_true rfl) (Nat.le_of_ble_eq_true rfl) rfl rfl (Nat.le_of_ble_eq_true rfl) d_X10_init_155 ?_
  rw [List.append_assoc]
  show gb_J Γ M_X10_init _ _ _ _ (pre ++ [.inr (10, [(c + 1) + 3, (c + 7) + 3, (c + 13) + 3, (c + 19) + 3, (c + 32) + 3, (c + 33) + 3, (c + 38) + 3, (c + 43) + 3, (c + 45) + 3, (c + 52) + 3, (c + 54) + 3, 2, 2, 2, 2, 0, 0, 0, 0]), .inr (0, [0, (c + 2) + 3, 0, (c + 3) + 3, 0, (c + 4) + 3, (c + 5) + 3, 0, (c + 6) + 3, 0]), .inl (0, 56), .inl (0, 40), .inl (0, 12), .inl (0, 3), .inl (3, 6), .inr (0, [0, (c + 8) + 3, 0, (c + 9) + 3, 0, (c + 10) + 3, (c + 11) + 3, 0, (c + 12) + 3, 0]), .inl (0, 56), .inl (0, 40), .inl (0, 12), .inl (0, 3), .inl (3, 6), .inr (0, [0, (c + 14) + 3, 0, (c + 15) + 3, 0, (c + 16) + 3, (c + 17) + 3, 0, (c + 18) + 3, 0]), .inl (0, 56), .inl (0, 40), .inl (0, 12), .inl (0, 3), .inl (3, 6), .inl (4, 2), .inr (0, [0, (c + 21) + 3, 0, (c + 22) + 3, 0, (c + 23) + 3, (c + 24) + 3, 0, (c + 25) + 3, 0]), .inl (0, 56), .inl (0, 40), .inl (0, 12), .inl (0, 3), .inl (3, 6), .inr (0, [0, (c + 27) + 3, 0, (c + 28) + 3, 0, (c + 29) + 3, (c + 30) + 3, 0, (c + 31) + 3, 0]), .inl (0, 56), .inl (0, 40), .inl (0, 12), .inl (0, 3), .inl (3, 6), .inl (0, 2), .inr (3, [0, (c + 34) + 3, (c + 35) + 3, (c + 36) + 3, (c + 37) + 3]), .inl (0, 16), .inl (0, 16), .inl (0, 16), .inl (0, 128), .inr (3, [0, (c + 39) + 3, (c + 40) + 3, (c + 41) + 3, (c + 42) + 3]), .inl (0, 16), .inl (0, 16), .inl (0, 16), .inl (0, 128), .inr (9, [(c + 44) + 3, 0, 0, 0, 0]), .inl (0, 400), .inr (8, [(c + 43) + 3, (c + 46) + 3, 0, 0]), .inr (7, [0, (c + 47) + 3, (c + 48) + 3, 0, (c + 49) + 3, (c + 50) + 3, (c + 51) + 3, 0]), .inl (0, 400), .inl (0, 400), .inl (0, 12), .inl (0, 12), .inl (0, 37), .inr (5, [(c + 53) + 3]), .inl (0, 51), .inr (4, [(c + 52) + 3, (c + 55) + 3, (c + 56) + 3]), .inl (0, 9), .inl (0, 8), .inr (1, [(c + 54) + 3, 0, (c + 58) + 3, (c + 59) + 3, (c + 60) + 3, (c + 61) + 3, (c + 62) + 3]), .inl (0, 8), .inl (0, 8), .inl (0, 8), .inr (2, [1, 1]), .inr (2, [1, 1])]) _ _ _ _
  generalize hg28 : gi_X1_init (c + 57) g27 = g28
  refine gb_putrP (i := 0) hc rfl f_X10_79 (fun _ => ⟨rfl, rfl⟩) (Nat.le_of_ble_eq_true rfl) (fun _ => rfl) (fun _ => rfl) d_X10_init_158 ?_
  show gb_J Γ M_X10_init _ _ _ _ (pre ++ [.inr (10, [(c + 1) + 3, (c + 7) + 3, (c + 13) + 3, (c + 19) + 3, (c + 32) + 3, (c + 33) + 3, (c + 38) + 3, (c + 43) + 3, (c + 45) + 3, (c + 52) + 3, (c + 54) + 3, (c + 57) + 3, 2, 2, 2, 0, 0, 0, 0]), .inr (0, [0, (c + 2) + 3, 0, (c + 3) + 3, 0, (c + 4) + 3, (c + 5) + 3, 0, (c + 6) + 3, 0]), .inl (0, 56), .inl (0, 40), .inl (0, 12), .inl (0, 3), .inl (3, 6), .inr (0, [0, (c + 8) + 3, 0, (c + 9) + 3, 0, (c + 10) + 3, (c + 11) + 3, 0, (c + 12) + 3, 0]), .inl (0, 56), .inl (0, 40), .inl (0, 12), .inl (0, 3), .inl (3, 6), .inr (0, [0, (c + 14) + 3, 0, (c + 15) + 3, 0, (c + 16) + 3, (c + 17) + 3, 0, (c + 18) + 3, 0]), .inl (0, 56), .inl (0, 40), .inl (0, 12), .inl (0, 3), .inl (3, 6), .inl (4, 2), .inr (0, [0, (c + 21) + 3, 0, (c + 22) + 3, 0, (c + 23) + 3, (c + 24) + 3, 0, (c + 25) + 3, 0]), .inl (0, 56), .inl (0, 40), .inl (0, 12), .inl (0, 3), .inl (3, 6), .inr (0, [0, (c + 27) + 3, 0, (c + 28) + 3, 0, (c + 29) + 3, (c + 30) + 3, 0, (c + 31) + 3, 0]), .inl (0, 56), .inl (0, 40), .inl (0, 12), .inl (0, 3), .inl (3, 6), .inl (0, 2), .inr (3, [0, (c + 34) + 3, (c + 35) + 3, (c + 36) + 3, (c + 37) + 3]), .inl (0, 16), .inl (0, 16), .inl (0, 16), .inl (0, 128), .inr (3, [0, (c + 39) + 3, (c + 40) + 3, (c + 41) + 3, (c + 42) + 3]), .inl (0, 16), .inl (0, 16), .inl (0, 16), .inl (0, 128), .inr (9, [(c + 44) + 3, 0, 0, 0, 0]), .inl (0, 400), .inr (8, [(c + 43) + 3, (c + 46) + 3, 0, 0]), .inr (7, [0, (c + 47) + 3, (c + 48) + 3, 0, (c + 49) + 3, (c + 50) + 3, (c + 51) + 3, 0]), .inl (0, 400), .inl (0, 400), .inl (0, 12), .inl (0, 12), .inl (0, 37), .inr (5, [(c + 53) + 3]), .inl (0, 51), .inr (4, [(c + 52) + 3, (c + 55) + 3, (c + 56) + 3]), .inl (0, 9), .inl (0, 8), .inr (1, [(c + 54) + 3, 0, (c + 58) + 3, (c + 59) + 3, (c + 60) + 3, (c + 61) + 3, (c + 62) + 3]), .inl (0, 8), .inl (0, 8), .inl (0, 8), .inr (2, [1, 1]), .inr (2, [1, 1])]) _ _ _ _
  refine gb_aload_n d_X10_init_161 rfl ?_
  refine gb_newP (n := 63) hc rfl n_X10_83 (Nat.le_of_ble_eq_true rfl) (Nat.le_of_ble_eq_true rfl) d_X10_init_162 ?_
  show gb_J Γ M_X10_init _ _ _ _ (pre ++ [.inr (10, [(c + 1) + 3, (c + 7) + 3, (c + 13) + 3, (c + 19) + 3, (c + 32) + 3, (c + 33) + 3, (c + 38) + 3, (c + 43) + 3, (c + 45) + 3, (c + 52) + 3, (c + 54) + 3, (c + 57) + 3, 2, 2, 2, 0, 0, 0, 0]), .inr (0, [0, (c + 2) + 3, 0, (c + 3) + 3, 0, (c + 4) + 3, (c + 5) + 3, 0, (c + 6) + 3, 0]), .inl (0, 56), .inl (0, 40), .inl (0, 12), .inl (0, 3), .inl (3, 6), .inr (0, [0, (c + 8) + 3, 0, (c + 9) + 3, 0, (c + 10) + 3, (c + 11) + 3, 0, (c + 12) + 3, 0]), .inl (0, 56), .inl (0, 40), .inl (0, 12), .inl (0, 3), .inl (3, 6), .inr (0, [0, (c + 14) + 3, 0, (c + 15) + 3, 0, (c + 16) + 3, (c + 17) + 3, 0, (c + 18) + 3, 0]), .inl (0, 56), .inl (0, 40), .inl (0, 12), .inl (0, 3), .inl (3, 6), .inl (4, 2), .inr (0, [0, (c + 21) + 3, 0, (c + 22) + 3, 0, (c + 23) + 3, (c + 24) + 3, 0, (c + 25) + 3, 0]), .inl (0, 56), .inl (0, 40), .inl (0, 12), .inl (0, 3), .inl (3, 6), .inr (0, [0, (c + 27) + 3, 0, (c + 28) + 3, 0, (c + 29) + 3, (c + 30) + 3, 0, (c + 31) + 3, 0]), .inl (0, 56), .inl (0, 40), .inl (0, 12), .inl (0, 3), .inl (3, 6), .inl (0, 2), .inr (3, [0, (c + 34) + 3, (c + 35) + 3, (c + 36) + 3, (c + 37) + 3]), .inl (0, 16), .inl (0, 16), .inl (0, 16), .inl (0, 128), .inr (3, [0, (c + 39) + 3, (c + 40) + 3, (c + 41) + 3, (c + 42) + 3]), .inl (0, 16), .inl (0, 16), .inl (0, 16), .inl (0, 128), .inr (9, [(c + 44) + 3, 0, 0, 0, 0]), .inl (0, 400), .inr (8, [(c + 43) + 3, (c + 46) + 3, 0, 0]), .inr (7, [0, (c + 47) + 3, (c + 48) + 3, 0, (c + 49) + 3, (c + 50) + 3, (c + 51) + 3, 0]), .inl (0, 400), .inl (0, 400), .inl (0, 12), .inl (0, 12), .inl (0, 37), .inr (5, [(c + 53) + 3]), .inl (0, 51), .inr (4, [(c + 52) + 3, (c + 55) + 3, (c + 56) + 3]), .inl (0, 9), .inl (0, 8), .inr (1, [(c + 54) + 3, 0, (c + 58) + 3, (c + 59) + 3, (c + 60) + 3, (c + 61) + 3, (c + 62) + 3]), .inl (0, 8), .inl (0, 8), .inl (0, 8), .inr (2, [1, 1]), .inr (2, [1, 1]), .inr (6, [2, 2, 2, 2, 2, 2, 2, 2, 2, 2, 0, 2, 0, 2, 2])]) _ _ _ _
  generalize hg29 : gb_z g28 (c + 63) = g29
  refine gb_dup d_X10_init_165 rfl ?_
  refine gb_aload_n d_X10_init_166 rfl ?_
  refine gb_getr (r := (c + 54)) f_X10_70 (gb_at (i := 0) hc rfl) rfl d_X10_init_167 ?_
  refine gb_aload_n d_X10_init_170 rfl ?_
  refine gb_getr (r := (c + 57)) f_X10_79 (gb_at (i := 0) hc rfl) rfl d_X10_init_171 ?_
  refine gb_cIn (As := [.ref (c + 54), .ref (c + 57)]) (rest := [.ref (c + 63), .ref c]) m_X10_85 (ti_X6_init (Γ := Γ) (pre := pre ++ [.inr (10, [(c + 1) + 3, (c + 7) + 3, (c + 13) + 3, (c + 19) + 3, (c + 32) + 3, (c + 33) + 3, (c + 38) + 3, (c + 43) + 3, (c + 45) + 3, (c + 52) + 3, (c + 54) + 3, (c + 57) + 3, 2, 2, 2, 0, 0, 0, 0]), .inr (0, [0, (c + 2) + 3, 0, (c + 3) + 3, 0, (c + 4) + 3, (c + 5) + 3, 0, (c + 6) + 3, 0]), .inl (0, 56), .inl (0, 40), .inl (0, 12), .inl (0, 3), .inl (3, 6), .inr (0, [0, (c + 8) + 3, 0, (c + 9) + 3, 0, (c + 10) + 3, (c + 11) + 3, 0, (c + 12) + 3, 0]), .inl (0, 56), .inl (0, 40), .inl (0, 12), .inl (0, 3), .inl (3, 6), .inr (0, [0, (c + 14) + 3, 0, (c + 15) + 3, 0, (c + 16) + 3, (c + 17) + 3, 0, (c + 18) + 3, 0]), .inl (0, 56), .inl (0, 40), .inl (0, 12), .inl (0, 3), .inl (3, 6), .inl (4, 2), .inr (0, [0, (c + 21) + 3, 0, (c + 22) + 3, 0, (c + 23) + 3, (c + 24) + 3, 0, (c + 25) + 3, 0]), .inl (0, 56), .inl (0, 40), .inl (0, 12), .inl (0, 3), .inl (3, 6), .inr (0, [0, (c + 27) + 3, 0, (c + 28) + 3, 0, (c + 29) + 3, (c + 30) + 3, 0, (c + 31) + 3, 0]), .inl (0, 56), .inl (0, 40), .inl (0, 12), .inl (0, 3), .inl (3, 6), .inl (0, 2), .inr (3, [0, (c + 34) + 3, (c + 35) + 3, (c + 36) + 3, (c + 37) + 3]), .inl (0, 16), .inl (0, 16), .inl (0, 16), .inl (0, 128), .inr (3, [0, (c + 39) + 3, (c + 40) + 3, (c + 41) + 3, (c + 42) + 3]), .inl (0, 16), .inl (0, 16), .inl (0, 16), .inl (0, 128), .inr (9, [(c + 44) + 3, 0, 0, 0, 0]), .inl (0, 400), .inr (8, [(c + 43) + 3, (c + 46) + 3, 0, 0]), .inr (7, [0, (c + 47) + 3, (c + 48) + 3, 0, (c + 49) + 3, (c + 50) + 3, (c + 51) + 3, 0]), .inl (0, 400), .inl (0, 400), .inl (0, 12), .inl (0, 12), .inl (0, 37), .inr (5, [(c + 53) + 3]), .inl (0, 51), .inr (4, [(c + 52) + 3, (c + 55) + 3, (c + 56) + 3]), .inl (0, 9), .inl (0, 8), .inr (1, [(c + 54) + 3, 0, (c + 58) + 3, (c + 59) + 3, (c + 60) + 3, (c + 61) + 3, (c + 62) + 3]), .inl (0, 8), .inl (0, 8), .inl (0, 8), .inr (2, [1, 1]), .inr (2, [1, 1])]) (c := c + 63) (c + 54) (c + 57) (by rw [List.length_append, hc]; rfl) (by rw [List.append_assoc]; rfl)) (Nat.le_of_ble_eq_true rfl) (Nat.le_of_ble_eq_true rfl) (Nat.le_of_ble_eq_true rfl) rfl rfl (Nat.le_of_ble_eq_true rfl) d_X10_init_174 ?_
  rw [List.append_assoc]
  show gb_J Γ M_X10_init _ _ _ _ (pre ++ [.inr (10, [(c + 1) + 3, (c + 7) + 3, (c + 13) + 3, (c + 19) + 3, (c + 32) + 3, (c + 33) + 3, (c + 38) + 3, (c + 43) + 3, (c + 45) + 3, (c + 52) + 3, (c + 54) + 3, (c + 57) + 3, 2, 2, 2, 0, 0, 0, 0]), .inr (0, [0, (c + 2) + 3, 0, (c + 3) + 3, 0, (c + 4) + 3, (c + 5) + 3, 0, (c + 6) + 3, 0]), .inl (0, 56), .inl (0, 40), .inl (0, 12), .inl (0, 3), .inl (3, 6), .inr (0, [0, (c + 8) + 3, 0, (c + 9) + 3, 0, (c + 10) + 3, (c + 11) + 3, 0, (c + 12) + 3, 0]), .inl (0, 56), .inl (0, 40), .inl (0, 12), .inl (0, 3), .inl (3, 6), .inr (0, [0, (c + 14) + 3, 0, (c + 15) + 3, 0, (c + 16) + 3, (c + 17) + 3, 0, (c + 18) + 3, 0]), .inl (0, 56), .inl (0, 40), .inl (0, 12), .inl (0, 3), .inl (3, 6), .inl (4, 2), .inr (0, [0, (c + 21) + 3, 0, (c + 22) + 3, 0, (c + 23) + 3, (c + 24) + 3, 0, (c + 25) + 3, 0]), .inl (0, 56), .inl (0, 40), .inl (0, 12), .inl (0, 3), .inl (3, 6), .inr (0, [0, (c + 27) + 3, 0, (c + 28) + 3, 0, (c + 29) + 3, (c + 30) + 3, 0, (c + 31) + 3, 0]), .inl (0, 56), .inl (0, 40), .inl (0, 12), .inl (0, 3), .inl (3, 6), .inl (0, 2), .inr (3, [0, (c + 34) + 3, (c + 35) + 3, (c + 36) + 3, (c + 37) + 3]), .inl (0, 16), .inl (0, 16), .inl (0, 16), .inl (0, 128), .inr (3, [0, (c + 39) + 3, (c + 40) + 3, (c + 41) + 3, (c + 42) + 3]), .inl (0, 16), .inl (0, 16), .inl (0, 16), .inl (0, 128), .inr (9, [(c + 44) + 3, 0, 0, 0, 0]), .inl (0, 400), .inr (8, [(c + 43) + 3, (c + 46) + 3, 0, 0]), .inr (7, [0, (c + 47) + 3, (c + 48) + 3, 0, (c + 49) + 3, (c + 50) + 3, (c + 51) + 3, 0]), .inl (0, 400), .inl (0, 400), .inl (0, 12), .inl (0, 12), .inl (0, 37), .inr (5, [(c + 53) + 3]), .inl (0, 51), .inr (4, [(c + 52) + 3, (c + 55) + 3, (c + 56) + 3]), .inl (0, 9), .inl (0, 8), .inr (1, [(c + 54) + 3, 0, (c + 58) + 3, (c + 59) + 3, (c + 60) + 3, (c + 61) + 3, (c + 62) + 3]), .inl (0, 8), .inl (0, 8), .inl (0, 8), .inr (2, [1, 1]), .inr (2, [1, 1]), .inr (6, [(c + 54) + 3, (c + 57) + 3, (c + 64) + 3, (c + 65) + 3, (c + 66) + 3, (c + 67) + 3, (c + 68) + 3, (c + 69) + 3, (c + 70) + 3, (c + 71) + 3, 0, (c + 72) + 3, 0, (c + 73) + 3, (c + 74) + 3]), .inl (0, 900), .inl (0, 8), .inl (0, 8), .inl (0, 8), .inl (0, 8), .inl (0, 2048), .inl (0, 8), .inl (0, 8), .inl (0, 256), .inl (1, 13), .inr (2, [1, 1])]) _ _ _ _
  generalize hg30 : gi_X6_init (c + 63) g29 = g30
  refine gb_putrP (i := 0) hc rfl f_X10_88 (fun _ => ⟨rfl, rfl⟩) (Nat.le_of_ble_eq_true rfl) (fun _ => rfl) (fun _ => rfl) d_X10_init_177 ?_
  show gb_J Γ M_X10_init _ _ _ _ (pre ++ [.inr (10, [(c + 1) + 3, (c + 7) + 3, (c + 13) + 3, (c + 19) + 3, (c + 32) + 3, (c + 33) + 3, (c + 38) + 3, (c + 43) + 3, (c + 45) + 3, (c + 52) + 3, (c + 54) + 3, (c + 57) + 3, (c + 63) + 3, 2, 2, 0, 0, 0, 0]), .inr (0, [0, (c + 2) + 3, 0, (c + 3) + 3, 0, (c + 4) + 3, (c + 5) + 3, 0, (c + 6) + 3, 0]), .inl (0, 56), .inl (0, 40), .inl (0, 12), .inl (0, 3), .inl (3, 6), .inr (0, [0, (c + 8) + 3, 0, (c + 9) + 3, 0, (c + 10) + 3, (c + 11) + 3, 0, (c + 12) + 3, 0]), .inl (0, 56), .inl (0, 40), .inl (0, 12), .inl (0, 3), .inl (3, 6), .inr (0, [0, (c + 14) + 3, 0, (c + 15) + 3, 0, (c + 16) + 3, (c + 17) + 3, 0, (c + 18) + 3, 0]), .inl (0, 56), .inl (0, 40), .inl (0, 12), .inl (0, 3), .inl (3, 6), .inl (4, 2), .inr (0, [0, (c + 21) + 3, 0, (c + 22) + 3, 0, (c + 23) + 3, (c + 24) + 3, 0, (c + 25) + 3, 0]), .inl (0, 56), .inl (0, 40), .inl (0, 12), .inl (0, 3), .inl (3, 6), .inr (0, [0, (c + 27) + 3, 0, (c + 28) + 3, 0, (c + 29) + 3, (c + 30) + 3, 0, (c + 31) + 3, 0]), .inl (0, 56), .inl (0, 40), .inl (0, 12), .inl (0, 3), .inl (3, 6), .inl (0, 2), .inr (3, [0, (c + 34) + 3, (c + 35) + 3, (c + 36) + 3, (c + 37) + 3]), .inl (0, 16), .inl (0, 16), .inl (0, 16), .inl (0, 128), .inr (3, [0, (c + 39) + 3, (c + 40) + 3, (c + 41) + 3, (c + 42) + 3]), .inl (0, 16), .inl (0, 16), .inl (0, 16), .inl (0, 128), .inr (9, [(c + 44) + 3, 0, 0, 0, 0]), .inl (0, 400), .inr (8, [(c + 43) + 3, (c + 46) + 3, 0, 0]), .inr (7, [0, (c + 47) + 3, (c + 48) + 3, 0, (c + 49) + 3, (c + 50) + 3, (c + 51) + 3, 0]), .inl (0, 400), .inl (0, 400), .inl (0, 12), .inl (0, 12), .inl (0, 37), .inr (5, [(c + 53) + 3]), .inl (0, 51), .inr (4, [(c + 52) + 3, (c + 55) + 3, (c + 56) + 3]), .inl (0, 9), .inl (0, 8), .inr (1, [(c + 54) + 3, 0, (c + 58) + 3, (c + 59) + 3, (c + 60) + 3, (c + 61) + 3, (c + 62) + 3]), .inl (0, 8), .inl (0, 8), .inl (0, 8), .inr (2, [1, 1]), .inr (2, [1, 1]), .inr (6, [(c + 54) + 3, (c + 57) + 3, (c + 64) + 3, (c + 65) + 3, (c + 66) + 3, (c + 67) + 3, (c + 68) + 3, (c + 69) + 3, (c + 70) + 3, (c + 71) + 3, 0, (c + 72) + 3, 0, (c + 73) + 3, (c + 74) + 3]), .inl (0, 900), .inl (0, 8), .inl (0, 8), .inl (0, 8), .inl (0, 8), .inl (0, 2048), .inl (0, 8), .inl (0, 8), .inl (0, 256), .inl (1, 13), .inr (2, [1, 1])]) _ _ _ _
  refine gb_aload_n d_X10_init_180 rfl ?_
  refine gb_bipush 21 d_X10_init_181 rfl ?_
  refine gb_newarrP (n := 75) (N := 21) hc rfl rfl (by decide) wa_0 (by decide) (by decide) (by decide) (Nat.le_of_ble_eq_true rfl) (Nat.le_of_ble_eq_true rfl) d_X10_init_183 ?_
  show gb_J Γ M_X10_init _ _ _ _ (pre ++ [.inr (10, [(c + 1) + 3, (c + 7) + 3, (c + 13) + 3, (c + 19) + 3, (c + 32) + 3, (c + 33) + 3, (c + 38) + 3, (c + 43) + 3, (c + 45) + 3, (c + 52) + 3, (c + 54) + 3, (c + 57) + 3, (c + 63) + 3, 2, 2, 0, 0, 0, 0]), .inr (0, [0, (c + 2) + 3, 0, (c + 3) + 3, 0, (c + 4) + 3, (c + 5) + 3, 0, (c + 6) + 3, 0]), .inl (0, 56), .inl (0, 40), .inl (0, 12), .inl (0, 3), .inl (3, 6), .inr (0, [0, (c + 8) + 3, 0, (c + 9) + 3, 0, (c + 10) + 3, (c + 11) + 3, 0, (c + 12) + 3, 0]), .inl (0, 56), .inl (0, 40), .inl (0, 12), .inl (0, 3), .inl (3, 6), .inr (0, [0, (c + 14) + 3, 0, (c + 15) + 3, 0, (c + 16) + 3, (c + 17) + 3, 0, (c + 18) + 3, 0]), .inl (0, 56), .inl (0, 40), .inl (0, 12), .inl (0, 3), .inl (3, 6), .inl (4, 2), .inr (0, [0, (c + 21) + 3, 0, (c + 22) + 3, 0, (c + 23) + 3, (c + 24) + 3, 0, (c + 25) + 3, 0]), .inl (0, 56), .inl (0, 40), .inl (0, 12), .inl (0, 3), .inl (3, 6), .inr (0, [0, (c + 27) + 3, 0, (c + 28) + 3, 0, (c + 29) + 3, (c + 30) + 3, 0, (c + 31) + 3, 0]), .inl (0, 56), .inl (0, 40), .inl (0, 12), .inl (0, 3), .inl (3, 6), .inl (0, 2), .inr (3, [0, (c + 34) + 3, (c + 35) + 3, (c + 36) + 3, (c + 37) + 3]), .inl (0, 16), .inl (0, 16), .inl (0, 16), .inl (0, 128), .inr (3, [0, (c + 39) + 3, (c + 40) + 3, (c + 41) + 3, (c + 42) + 3]), .inl (0, 16), .inl (0, 16), .inl (0, 16), .inl (0, 128), .inr (9, [(c + 44) + 3, 0, 0, 0, 0]), .inl (0, 400), .inr (8, [(c + 43) + 3, (c + 46) + 3, 0, 0]), .inr (7, [0, (c + 47) + 3, (c + 48) + 3, 0, (c + 49) + 3, (c + 50) + 3, (c + 51) + 3, 0]), .inl (0, 400), .inl (0, 400), .inl (0, 12), .inl (0, 12), .inl (0, 37), .inr (5, [(c + 53) + 3]), .inl (0, 51), .inr (4, [(c + 52) + 3, (c + 55) + 3, (c + 56) + 3]), .inl (0, 9), .inl (0, 8), .inr (1, [(c + 54) + 3, 0, (c + 58) + 3, (c + 59) + 3, (c + 60) + 3, (c + 61) + 3, (c + 62) + 3]), .inl (0, 8), .inl (0, 8), .inl (0, 8), .inr (2, [1, 1]), .inr (2, [1, 1]), .inr (6, [(c + 54) + 3, (c + 57) + 3, (c + 64) + 3, (c + 65) + 3, (c + 66) + 3, (c + 67) + 3, (c + 68) + 3, (c + 69) + 3, (c + 70) + 3, (c + 71) + 3, 0, (c + 72) + 3, 0, (c + 73) + 3, (c + 74) + 3]), .inl (0, 900), .inl (0, 8), .inl (0, 8), .inl (0, 8), .inl (0, 8), .inl (0, 2048), .inl (0, 8), .inl (0, 8), .inl (0, 256), .inl (1, 13), .inr (2, [1, 1]), .inl (0, 21)]) _ _ _ _
  generalize hg31 : gb_z g30 (c + 75) = g31
  refine gb_putrP (i := 0) hc rfl f_X10_92 (fun _ => ⟨rfl, rfl⟩) (Nat.le_of_ble_eq_true rfl) (fun _ => rfl) (fun _ => rfl) d_X10_init_185 ?_
  show gb_J Γ M_X10_init _ _ _ _ (pre ++ [.inr (10, [(c + 1) + 3, (c + 7) + 3, (c + 13) + 3, (c + 19) + 3, (c + 32) + 3, (c + 33) + 3, (c + 38) + 3, (c + 43) + 3, (c + 45) + 3, (c + 52) + 3, (c + 54) + 3, (c + 57) + 3, (c + 63) + 3, (c + 75) + 3, 2, 0, 0, 0, 0]), .inr (0, [0, (c + 2) + 3, 0, (c + 3) + 3, 0, (c + 4) + 3, (c + 5) + 3, 0, (c + 6) + 3, 0]), .inl (0, 56), .inl (0, 40), .inl (0, 12), .inl (0, 3), .inl (3, 6), .inr (0, [0, (c + 8) + 3, 0, (c + 9) + 3, 0, (c + 10) + 3, (c + 11) + 3, 0, (c + 12) + 3, 0]), .inl (0, 56), .inl (0, 40), .inl (0, 12), .inl (0, 3), .inl (3, 6), .inr (0, [0, (c + 14) + 3, 0, (c + 15) + 3, 0, (c + 16) + 3, (c + 17) + 3, 0, (c + 18) + 3, 0]), .inl (0, 56), .inl (0, 40), .inl (0, 12), .inl (0, 3), .inl (3, 6), .inl (4, 2), .inr (0, [0, (c + 21) + 3, 0, (c + 22) + 3, 0, (c + 23) + 3, (c + 24) + 3, 0, (c + 25) + 3, 0]), .inl (0, 56), .inl (0, 40), .inl (0, 12), .inl (0, 3), .inl (3, 6), .inr (0, [0, (c + 27) + 3, 0, (c + 28) + 3, 0, (c + 29) + 3, (c + 30) + 3, 0, (c + 31) + 3, 0]), .inl (0, 56), .inl (0, 40), .inl (0, 12), .inl (0, 3), .inl (3, 6), .inl (0, 2), .inr (3, [0, (c + 34) + 3, (c + 35) + 3, (c + 36) + 3, (c + 37) + 3]), .inl (0, 16), .inl (0, 16), .inl (0, 16), .inl (0, 128), .inr (3, [0, (c + 39) + 3, (c + 40) + 3, (c + 41) + 3, (c + 42) + 3]), .inl (0, 16), .inl (0, 16), .inl (0, 16), .inl (0, 128), .inr (9, [(c + 44) + 3, 0, 0, 0, 0]), .inl (0, 400), .inr (8, [(c + 43) + 3, (c + 46) + 3, 0, 0]), .inr (7, [0, (c + 47) + 3, (c + 48) + 3, 0, (c + 49) + 3, (c + 50) + 3, (c + 51) + 3, 0]), .inl (0, 400), .inl (0, 400), .inl (0, 12), .inl (0, 12), .inl (0, 37), .inr (5, [(c + 53) + 3]), .inl (0, 51), .inr (4, [(c + 52) + 3, (c + 55) + 3, (c + 56) + 3]), .inl (0, 9), .inl (0, 8), .inr (1, [(c + 54) + 3, 0, (c + 58) + 3, (c + 59) + 3, (c + 60) + 3, (c + 61) + 3, (c + 62) + 3]), .inl (0, 8), .inl (0, 8), .inl (0, 8), .inr (2, [1, 1]), .inr (2, [1, 1]), .inr (6, [(c + 54) + 3, (c + 57) + 3, (c + 64) + 3, (c + 65) + 3, (c + 66) + 3, (c + 67) + 3, (c + 68) + 3, (c + 69) + 3, (c + 70) + 3, (c + 71) + 3, 0, (c + 72) + 3, 0, (c + 73) + 3, (c + 74) + 3]), .inl (0, 900), .inl (0, 8), .inl (0, 8), .inl (0, 8), .inl (0, 8), .inl (0, 2048), .inl (0, 8), .inl (0, 8), .inl (0, 256), .inl (1, 13), .inr (2, [1, 1]), .inl (0, 21)]) _ _ _ _
  refine gb_aload_n d_X10_init_188 rfl ?_
  refine gb_bipush 7 d_X10_init_189 rfl ?_
  refine gb_newarrP (n := 76) (N := 7) hc rfl rfl (by decide) wa_0 (by decide) (by decide) (by decide) (Nat.le_of_ble_eq_true rfl) (Nat.le_of_ble_eq_true rfl) d_X10_init_191 ?_
  show gb_J Γ M_X10_init _ _ _ _ (pre ++ [.inr (10, [(c + 1) + 3, (c + 7) + 3, (c + 13) + 3, (c + 19) + 3, (c + 32) + 3, (c + 33) + 3, (c + 38) + 3, (c + 43) + 3, (c + 45) + 3, (c + 52) + 3, (c + 54) + 3, (c + 57) + 3, (c + 63) + 3, (c + 75) + 3, 2, 0, 0, 0, 0]), .inr (0, [0, (c + 2) + 3, 0, (c + 3) + 3, 0, (c + 4) + 3, (c + 5) + 3, 0, (c + 6) + 3, 0]), .inl (0, 56), .inl (0, 40), .inl (0, 12), .inl (0, 3), .inl (3, 6), .inr (0, [0, (c + 8) + 3, 0, (c + 9) + 3, 0, (c + 10) + 3, (c + 11) + 3, 0, (c + 12) + 3, 0]), .inl (0, 56), .inl (0, 40), .inl (0, 12), .inl (0, 3), .inl (3, 6), .inr (0, [0, (c + 14) + 3, 0, (c + 15) + 3, 0, (c + 16) + 3, (c + 17) + 3, 0, (c + 18) + 3, 0]), .inl (0, 56), .inl (0, 40), .inl (0, 12), .inl (0, 3), .inl (3, 6), .inl (4, 2), .inr (0, [0, (c + 21) + 3, 0, (c + 22) + 3, 0, (c + 23) + 3, (c + 24) + 3, 0, (c + 25) + 3, 0]), .inl (0, 56), .inl (0, 40), .inl (0, 12), .inl (0, 3), .inl (3, 6), .inr (0, [0, (c + 27) + 3, 0, (c + 28) + 3, 0, (c + 29) + 3, (c + 30) + 3, 0, (c + 31) + 3, 0]), .inl (0, 56), .inl (0, 40), .inl (0, 12), .inl (0, 3), .inl (3, 6), .inl (0, 2), .inr (3, [0, (c + 34) + 3, (c + 35) + 3, (c + 36) + 3, (c + 37) + 3]), .inl (0, 16), .inl (0, 16), .inl (0, 16), .inl (0, 128), .inr (3, [0, (c + 39) + 3, (c + 40) + 3, (c + 41) + 3, (c + 42) + 3]), .inl (0, 16), .inl (0, 16), .inl (0, 16), .inl (0, 128), .inr (9, [(c + 44) + 3, 0, 0, 0, 0]), .inl (0, 400), .inr (8, [(c + 43) + 3, (c + 46) + 3, 0, 0]), .inr (7, [0, (c + 47) + 3, (c + 48) + 3, 0, (c + 49) + 3, (c + 50) + 3, (c + 51) + 3, 0]), .inl (0, 400), .inl (0, 400), .inl (0, 12), .inl (0, 12), .inl (0, 37), .inr (5, [(c + 53) + 3]), .inl (0, 51), .inr (4, [(c + 52) + 3, (c + 55) + 3, (c + 56) + 3]), .inl (0, 9), .inl (0, 8), .inr (1, [(c + 54) + 3, 0, (c + 58) + 3, (c + 59) + 3, (c + 60) + 3, (c + 61) + 3, (c + 62) + 3]), .inl (0, 8), .inl (0, 8), .inl (0, 8), .inr (2, [1, 1]), .inr (2, [1, 1]), .inr (6, [(c + 54) + 3, (c + 57) + 3, (c + 64) + 3, (c + 65) + 3, (c + 66) + 3, (c + 67) + 3, (c + 68) + 3, (c + 69) + 3, (c + 70) + 3, (c + 71) + 3, 0, (c + 72) + 3, 0, (c + 73) + 3, (c + 74) + 3]), .inl (0, 900), .inl (0, 8), .inl (0, 8), .inl (0, 8), .inl (0, 8), .inl (0, 2048), .inl (0, 8), .inl (0, 8), .inl (0, 256), .inl (1, 13), .inr (2, [1, 1]), .inl (0, 21), .inl (0, 7)]) _ _ _ _
  generalize hg32 : gb_z g31 (c + 76) = g32
  refine gb_putrP (i := 0) hc rfl f_X10_95 (fun _ => ⟨rfl, rfl⟩) (Nat.le_of_ble_eq_true rfl) (fun _ => rfl) (fun _ => rfl) d_X10_init_193 ?_
  show gb_J Γ M_X10_init _ _ _ _ (pre ++ [.inr (10, [(c + 1) + 3, (c + 7) + 3, (c + 13) + 3, (c + 19) + 3, (c + 32) + 3, (c + 33) + 3, (c + 38) + 3, (c + 43) + 3, (c + 45) + 3, (c + 52) + 3, (c + 54) + 3, (c + 57) + 3, (c + 63) + 3, (c + 75) + 3, (c + 76) + 3, 0, 0, 0, 0]), .inr (0, [0, (c + 2) + 3, 0, (c + 3) + 3, 0, (c + 4) + 3, (c + 5) + 3, 0, (c + 6) + 3, 0]), .inl (0, 56), .inl (0, 40), .inl (0, 12), .inl (0, 3), .inl (3, 6), .inr (0, [0, (c + 8) + 3, 0, (c + 9) + 3, 0, (c + 10) + 3, (c + 11) + 3, 0, (c + 12) + 3, 0]), .inl (0, 56), .inl (0, 40), .inl (0, 12), .inl (0, 3), .inl (3, 6), .inr (0, [0, (c + 14) + 3, 0, (c + 15) + 3, 0, (c + 16) + 3, (c + 17) + 3, 0, (c + 18) + 3, 0]), .inl (0, 56), .inl (0, 40), .inl (0, 12), .inl (0, 3), .inl (3, 6), .inl (4, 2), .inr (0, [0, (c + 21) + 3, 0, (c + 22) + 3, 0, (c + 23) + 3, (c + 24) + 3, 0, (c + 25) + 3, 0]), .inl (0, 56), .inl (0, 40), .inl (0, 12), .inl (0, 3), .inl (3, 6), .inr (0, [0, (c + 27) + 3, 0, (c + 28) + 3, 0, (c + 29) + 3, (c + 30) + 3, 0, (c + 31) + 3, 0]), .inl (0, 56), .inl (0, 40), .inl (0, 12), .inl (0, 3), .inl (3, 6), .inl (0, 2), .inr (3, [0, (c + 34) + 3, (c + 35) + 3, (c + 36) + 3, (c + 37) + 3]), .inl (0, 16), .inl (0, 16), .inl (0, 16), .inl (0, 128), .inr (3, [0, (c + 39) + 3, (c + 40) + 3, (c + 41) + 3, (c + 42) + 3]), .inl (0, 16), .inl (0, 16), .inl (0, 16), .inl (0, 128), .inr (9, [(c + 44) + 3, 0, 0, 0, 0]), .inl (0, 400), .inr (8, [(c + 43) + 3, (c + 46) + 3, 0, 0]), .inr (7, [0, (c + 47) + 3, (c + 48) + 3, 0, (c + 49) + 3, (c + 50) + 3, (c + 51) + 3, 0]), .inl (0, 400), .inl (0, 400), .inl (0, 12), .inl (0, 12), .inl (0, 37), .inr (5, [(c + 53) + 3]), .inl (0, 51), .inr (4, [(c + 52) + 3, (c + 55) + 3, (c + 56) + 3]), .inl (0, 9), .inl (0, 8), .inr (1, [(c + 54) + 3, 0, (c + 58) + 3, (c + 59) + 3, (c + 60) + 3, (c + 61) + 3, (c + 62) + 3]), .inl (0, 8), .inl (0, 8), .inl (0, 8), .inr (2, [1, 1]), .inr (2, [1, 1]), .inr (6, [(c + 54) + 3, (c + 57) + 3, (c + 64) + 3, (c + 65) + 3, (c + 66) + 3, (c + 67) + 3, (c + 68) + 3, (c + 69) + 3, (c + 70) + 3, (c + 71) + 3, 0, (c + 72) + 3, 0, (c + 73) + 3, (c + 74) + 3]), .inl (0, 900), .inl (0, 8), .inl (0, 8), .inl (0, 8), .inl (0, 8), .inl (0, 2048), .inl (0, 8), .inl (0, 8), .inl (0, 256), .inl (1, 13), .inr (2, [1, 1]), .inl (0, 21), .inl (0, 7)]) _ _ _ _
  refine gb_aload_n d_X10_init_196 rfl ?_
  refine gb_iconst (-1) d_X10_init_197 rfl ?_
  refine gb_puti f_X10_98 (fun _ => ⟨rfl, rfl⟩) (gb_at (i := 0) hc rfl) rfl rfl rfl d_X10_init_198 ?_
  generalize hg33 : gb_pi g32 (c + 0) 15 (-1) = g33
  refine gb_aload_n d_X10_init_201 rfl ?_
  refine gb_iconst 0 d_X10_init_202 rfl ?_
  refine gb_puti f_X10_102 (fun _ => ⟨rfl, rfl⟩) (gb_at (i := 0) hc rfl) rfl rfl rfl d_X10_init_203 ?_
  generalize hg34 : gb_pi g33 (c + 0) 16 0 = g34
  refine gb_aload_n d_X10_init_206 rfl ?_
  refine gb_iconst (-1) d_X10_init_207 rfl ?_
  refine gb_puti f_X10_105 (fun _ => ⟨rfl, rfl⟩) (gb_at (i := 0) hc rfl) rfl rfl rfl d_X10_init_208 ?_
  generalize hg35 : gb_pi g34 (c + 0) 17 (-1) = g35
  refine gb_aload_n d_X10_init_211 rfl ?_
  refine gb_iconst 0 d_X10_init_212 rfl ?_
  refine gb_puti f_X10_108 (fun _ => ⟨rfl, rfl⟩) (gb_at (i := 0) hc rfl) rfl rfl rfl d_X10_init_213 ?_
  generalize hg36 : gb_pi g35 (c + 0) 18 0 = g36
  exact gb_vret d_X10_init_216 rfl ⟨rfl, by subst_vars; rfl, rfl⟩
def gi_X11_init (c : Nat) (g : gb_G) : gb_G := gb_let (gb_z g (c + 1)) (fun g1 => gb_let (gb_z g1 (c + 2)) (fun g2 => gb_let (gb_z g2 (c + 3)) (fun g3 => gb_let (gb_z g3 (c + 4)) (fun g4 => gb_let (gb_z g4 (c + 5)) (fun g5 => gb_let (gb_z g5 (c + 6)) (fun g6 => gb_let (gb_z g6 (c + 7)) (fun g7 => gb_let (gb_z g7 (c + 8)) (fun g8 => gb_let (gb_z g8 (c + 9)) (fun g9 => gb_let (gb_pi g9 (c + 0) 18 (-1)) (fun g10 => gb_let (gb_z g10 (c + 10)) (fun g11 => gb_let (gb_z g11 (c + 11)) (fun g12 => gb_let (gb_z g12 (c + 12)) (fun g13 => gb_let (gb_z g13 (c + 13)) (fun g14 => gb_let (gb_z g14 (c + 14)) (fun g15 => gb_let (gb_z g15 (c + 15)) (fun g16 => gb_let (gb_pj g16 (c + 15) 0 245220) (fun g17 => gb_let (gb_pj g17 (c + 15) 1 67173) (fun g18 => gb_let (gb_pj g18 (c + 15) 2 14839) (fun g19 => gb_let (gb_pj g19 (c + 15) 3 777297172) (fun g20 => gb_let (gb_pj g20 (c + 15) 4 241700) (fun g21 => gb_let (gb_pj g21 (c + 15) 5 12619123) (fun g22 => gb_let (gb_pj g22 (c + 15) 6 17171557) (fun g23 => gb_let (gb_pj g23 (c + 15) 7 14137992) (fun g24 => gb_let (gb_pj g24 (c + 15) 8 441828) (fun g25 => gb_let (gb_z g25 (c + 16)) (fun g26 => gb_let (gb_pj g26 (c + 16) 0 14137992) (fun g27 => gb_let (gb_pj g27 (c + 16) 1 146885) (fun g28 => gb_let (gb_pj g28 (c + 16) 2 404362868) (fun g29 => gb_let (gb_pj g29 (c + 16) 3 211015237) (fun g30 => gb_let (gb_pj g30 (c + 16) 4 12921972167) (fun g31 => gb_let (gb_pj g31 (c + 16) 5 14839) (fun g32 => gb_let (gb_pj g32 (c + 16) 6 777297172) (fun g33 => gb_let (gb_z g33 (c + 17)) (fun g34 => gb_let (gb_pj g34 (c + 17) 0 14145715) (fun g35 => gb_let (gb_pj g35 (c + 17) 1 117095059) (fun g36 => gb_let (gb_pj g36 (c + 17) 2 7734419) (fun g37 => gb_let (gb_pj g37 (c + 17) 3 67155) (fun g38 => gb_let (gb_z g38 (c + 18)) (fun g39 => gb_let (gb_z g39 (c + 19)) (fun g40 => gb_let (gb_z g40 (c + 20)) (fun g41 => gb_let (gb_z g41 (c + 21)) (fun g42 => gb_let (gb_z g42 (c + 22)) (fun g43 => gb_let (gb_z g43 (c + 23)) (fun g44 => gb_let (gb_z g44 (c + 24)) (fun g45 => gb_let (gb_z g45 (c + 25)) (fun g46 => gb_let (gb_pj g46 (c + 25) 0 394347) (fun g47 => gb_let (gb_pj g47 (c + 25) 1 206276) (fun g48 => gb_let (gb_pj g48 (c + 25) 2 24290536) (fun g49 => gb_let (gb_pj g49 (c + 25) 3 525939) (fun g50 => gb_let (gb_z g50 (c + 26)) (fun g51 => gb_let (gb_pi g51 (c + 0) 51 (-1)) (fun g52 => gb_let (gb_z g52 (c + 27)) (fun g53 => gb_let (gb_pi g53 (c + 0) 55 (-1)) (fun g54 => gb_let (gb_pi g54 (c + 2) 4 (-1)) (fun g55 => gb_let (gb_pi g55 (c + 2) 6 3) (fun g56 => g56))))))))))))))))))))))))))))))))))))))))))))))))))))))))
def gl_X11_init (c : Nat) : List gb_Sh := [.inr (11, [0, 0, (c + 1) + 3, (c + 2) + 3, (c + 3) + 3, (c + 4) + 3, (c + 5) + 3, (c + 6) + 3, 0, (c + 7) + 3, (c + 8) + 3, 0, (c + 9) + 3, 0, 0, 0, 0, 1, 0, 0, 0, 0, (c + 10) + 3, 0, (c + 11) + 3, (c + 12) + 3, 0, (c + 13) + 3, (c + 14) + 3, 0, 0, (c + 15) + 3, (c + 16) + 3, (c + 17) + 3, 0, (c + 18) + 3, (c + 19) + 3, (c + 20) + 3, 0, 1, 1, 1, 1, (c + 21) + 3, (c + 22) + 3, (c + 23) + 3, (c + 24) + 3, (c + 25) + 3, (c + 26) + 3, 0, 0, 0, 0, 1, (c + 27) + 3, 0]), .inl (0, 7), .inl (0, 5520), .inl (0, 11040), .inl (2, 2), .inl (0, 486), .inl (0, 16), .inl (0, 432), .inl (0, 16), .inl (0, 400), .inl (0, 96), .inl (0, 400), .inl (0, 400), .inl (0, 400), .inl (0, 400), .inl (1, 9), .inl (1, 7), .inl (1, 4), .inl (1, 13), .inl (1, 13), .inl (1, 400), .inl (0, 900), .inl (0, 2048), .inl (0, 8), .inl (1, 14), .inl (1, 4), .inl (0, 96), .inl (0, 16)]
set_option maxRecDepth 100000 in
set_option maxHeartbeats 4000000 in
theorem ti_X11_init {Γ : gb_X} {sh pre : List gb_Sh} {g : gb_G} {c : Nat} (hc : pre.length = c) (hsh : sh = pre ++ [.inr (11, [0, 0, 2, 2, 2, 2, 2, 2, 0, 2, 2, 0, 2, 0, 0, 0, 0, 1, 0, 0, 0, 0, 2, 0, 2, 2, 0, 2, 2, 0, 0, 2, 2, 2, 0, 2, 2, 2, 0, 1, 1, 1, 1, 2, 2, 2, 2, 2, 2, 0, 0, 0, 0, 1, 2, 0])]) : gb_C Γ M_X11_init 1 27 23147 sh g [.ref c] (gb_Rn (pre ++ gl_X11_init c) (gi_X11_init c g)) := by
  subst hsh
  refine gb_C.of rfl (Nat.le_of_ble_eq_true rfl) ?_
  refine gb_pick (lv' := [(0, .ref c)]) [0] rfl ?_
  refine gb_aload_n d_X11_init_0 rfl ?_
  refine gb_obj o_X11_1 wo_i wo_c (Nat.le_of_ble_eq_true rfl) (Nat.le_of_ble_eq_true rfl) d_X11_init_1 ?_
  refine gb_aload_n d_X11_init_4 rfl ?_
  refine gb_bipush 7 d_X11_init_5 rfl ?_
  refine gb_newarrP (n := 1) (N := 7) hc rfl rfl (by decide) wa_0 (by decide) (by decide) (by decide) (Nat.le_of_ble_eq_true rfl) (Nat.le_of_ble_eq_true rfl) d_X11_init_7 ?_
  show gb_J Γ M_X11_init _ _ _ _ (pre ++ [.inr (11, [0, 0, 2, 2, 2, 2, 2, 2, 0, 2, 2, 0, 2, 0, 0, 0, 0, 1, 0, 0, 0, 0, 2, 0, 2, 2, 0, 2, 2, 0, 0, 2, 2, 2, 0, 2, 2, 2, 0, 1, 1, 1, 1, 2, 2, 2, 2, 2, 2, 0, 0, 0, 0, 1, 2, 0]), .inl (0, 7)]) _ _ _ _
  generalize hg1 : gb_z g (c + 1) = g1
  refine gb_putrP (i := 0) hc rfl f_X11_7 (fun _ => ⟨rfl, rfl⟩) (Nat.le_of_ble_eq_true rfl) (fun _ => rfl) (fun _ => rfl) d_X11_init_9 ?_
  show gb_J Γ M_X11_init _ _ _ _ (pre ++ [.inr (11, [0, 0, (c + 1) + 3, 2, 2, 2, 2, 2, 0, 2, 2, 0, 2, 0, 0, 0, 0, 1, 0, 0, 0, 0, 2, 0, 2, 2, 0, 2, 2, 0, 0, 2, 2, 2, 0, 2, 2, 2, 0, 1, 1, 1, 1, 2, 2, 2, 2, 2, 2, 0, 0, 0, 0, 1, 2, 0]), .inl (0, 7)]) _ _ _ _
  refine gb_aload_n d_X11_init_12 rfl ?_
  refine gb_sipush 5520 d_X11_init_13 rfl ?_
  refine gb_newarrP (n := 2) (N := 5520) hc rfl rfl (by decide) wa_0 (by decide) (by decide) (by decide) (Nat.le_of_ble_eq_true rfl) (Nat.le_of_ble_eq_true rfl) d_X11_init_16 ?_
  show gb_J Γ M_X11_init _ _ _ _ (pre ++ [.inr (11, [0, 0, (c + 1) + 3, 2, 2, 2, 2, 2, 0, 2, 2, 0, 2, 0, 0, 0, 0, 1, 0, 0, 0, 0, 2, 0, 2, 2, 0, 2, 2, 0, 0, 2, 2, 2, 0, 2, 2, 2, 0, 1, 1, 1, 1, 2, 2, 2, 2, 2, 2, 0, 0, 0, 0, 1, 2, 0]), .inl (0, 7), .inl (0, 5520)]) _ _ _ _
  generalize hg2 : gb_z g1 (c + 2) = g2
  refine gb_putrP (i := 0) hc rfl f_X11_13 (fun _ => ⟨rfl, rfl⟩) (Nat.le_of_ble_eq_true rfl) (fun _ => rfl) (fun _ => rfl) d_X11_init_18 ?_
  show gb_J Γ M_X11_init _ _ _ _ (pre ++ [.inr (11, [0, 0, (c + 1) + 3, (c + 2) + 3, 2, 2, 2, 2, 0, 2, 2, 0, 2, 0, 0, 0, 0, 1, 0, 0, 0, 0, 2, 0, 2, 2, 0, 2, 2, 0, 0, 2, 2, 2, 0, 2, 2, 2, 0, 1, 1, 1, 1, 2, 2, 2, 2, 2, 2, 0, 0, 0, 0, 1, 2, 0]), .inl (0, 7), .inl (0, 5520)]) _ _ _ _
  refine gb_aload_n d_X11_init_21 rfl ?_
  refine gb_sipush 11040 d_X11_init_22 rfl ?_
  refine gb_newarrP (n := 3) (N := 11040) hc rfl rfl (by decide) wa_0 (by decide) (by decide) (by decide) (Nat.le_of_ble_eq_true rfl) (Nat.le_of_ble_eq_true rfl) d_X11_init_25 ?_
  show gb_J Γ M_X11_init _ _ _ _ (pre ++ [.inr (11, [0, 0, (c + 1) + 3, (c + 2) + 3, 2, 2, 2, 2, 0, 2, 2, 0, 2, 0, 0, 0, 0, 1, 0, 0, 0, 0, 2, 0, 2, 2, 0, 2, 2, 0, 0, 2, 2, 2, 0, 2, 2, 2, 0, 1, 1, 1, 1, 2, 2, 2, 2, 2, 2, 0, 0, 0, 0, 1, 2, 0]), .inl (0, 7), .inl (0, 5520), .inl (0, 11040)]) _ _ _ _
  generalize hg3 : gb_z g2 (c + 3) = g3
  refine gb_putrP (i := 0) hc rfl f_X11_16 (fun _ => ⟨rfl, rfl⟩) (Nat.le_of_ble_eq_true rfl) (fun _ => rfl) (fun _ => rfl) d_X11_init_27 ?_
  show gb_J Γ M_X11_init _ _ _ _ (pre ++ [.inr (11, [0, 0, (c + 1) + 3, (c + 2) + 3, (c + 3) + 3, 2, 2, 2, 0, 2, 2, 0, 2, 0, 0, 0, 0, 1, 0, 0, 0, 0, 2, 0, 2, 2, 0, 2, 2, 0, 0, 2, 2, 2, 0, 2, 2, 2, 0, 1, 1, 1, 1, 2, 2, 2, 2, 2, 2, 0, 0, 0, 0, 1, 2, 0]), .inl (0, 7), .inl (0, 5520), .inl (0, 11040)]) _ _ _ _
  refine gb_aload_n d_X11_init_30 rfl ?_
  refine gb_iconst 2 d_X11_init_31 rfl ?_
  refine gb_newarrP (n := 4) (N := 2) hc rfl rfl (by decide) wa_2 (by decide) (by decide) (by decide) (Nat.le_of_ble_eq_true rfl) (Nat.le_of_ble_eq_true rfl) d_X11_init_32 ?_
  show gb_J Γ M_X11_init _ _ _ _ (pre ++ [.inr (11, [0, 0, (c + 1) + 3, (c + 2) + 3, (c + 3) + 3, 2, 2, 2, 0, 2, 2, 0, 2, 0, 0, 0, 0, 1, 0, 0, 0, 0, 2, 0, 2, 2, 0, 2, 2, 0, 0, 2, 2, 2, 0, 2, 2, 2, 0, 1, 1, 1, 1, 2, 2, 2, 2, 2, 2, 0, 0, 0, 0, 1, 2, 0]), .inl (0, 7), .inl (0, 5520), .inl (0, 11040), .inl (2, 2)]) _ _ _ _
  generalize hg4 : gb_z g3 (c + 4) = g4
  refine gb_putrP (i := 0) hc rfl f_X11_19 (fun _ => ⟨rfl, rfl⟩) (Nat.le_of_ble_eq_true rfl) (fun _ => rfl) (fun _ => rfl) d_X11_init_34 ?_
  show gb_J Γ M_X11_init _ _ _ _ (pre ++ [.inr (11, [0, 0, (c + 1) + 3, (c + 2) + 3, (c + 3) + 3, (c + 4) + 3, 2, 2, 0, 2, 2, 0, 2, 0, 0, 0, 0, 1, 0, 0, 0, 0, 2, 0, 2, 2, 0, 2, 2, 0, 0, 2, 2, 2, 0, 2, 2, 2, 0, 1, 1, 1, 1, 2, 2, 2, 2, 2, 2, 0, 0, 0, 0, 1, 2, 0]), .inl (0, 7), .inl (0, 5520), .inl (0, 11040), .inl (2, 2)]) _ _ _ _
  refine gb_aload_n d_X11_init_37 rfl ?_
  refine gb_sipush 486 d_X11_init_38 rfl ?_
  refine gb_newarrP (n := 5) (N := 486) hc rfl rfl (by decide) wa_0 (by decide) (by decide) (by decide) (Nat.le_of_ble_eq_true rfl) (Nat.le_of_ble_eq_true rfl) d_X11_init_41 ?_
  show gb_J Γ M_X11_init _ _ _ _ (pre ++ [.inr (11, [0, 0, (c + 1) + 3, (c + 2) + 3, (c + 3) + 3, (c + 4) + 3, 2, 2, 0, 2, 2, 0, 2, 0, 0, 0, 0, 1, 0, 0, 0, 0, 2, 0, 2, 2, 0, 2, 2, 0, 0, 2, 2, 2, 0, 2, 2, 2, 0, 1, 1, 1, 1, 2, 2, 2, 2, 2, 2, 0, 0, 0, 0, 1, 2, 0]), .inl (0, 7), .inl (0, 5520), .inl (0, 11040), .inl (2, 2), .inl (0, 486)]) _ _ _ _
  generalize hg5 : gb_z g4 (c + 5) = g5
  refine gb_putrP (i := 0) hc rfl f_X11_23 (fun _ => ⟨rfl, rfl⟩) (Nat.le_of_ble_eq_true rfl) (fun _ => rfl) (fun _ => rfl) d_X11_init_43 ?_
  show gb_J Γ M_X11_init _ _ _ _ (pre ++ [.inr (11, [0, 0, (c + 1) + 3, (c + 2) + 3, (c + 3) + 3, (c + 4) + 3, (c + 5) + 3, 2, 0, 2, 2, 0, 2, 0, 0, 0, 0, 1, 0, 0, 0, 0, 2, 0, 2, 2, 0, 2, 2, 0, 0, 2, 2, 2, 0, 2, 2, 2, 0, 1, 1, 1, 1, 2, 2, 2, 2, 2, 2, 0, 0, 0, 0, 1, 2, 0]), .inl (0, 7), .inl (0, 5520), .inl (0, 11040), .inl (2, 2), .inl (0, 486)]) _ _ _ _
  refine gb_aload_n d_X11_init_46 rfl ?_
  refine gb_bipush 16 d_X11_init_47 rfl ?_
  refine gb_newarrP (n := 6) (N := 16) hc rfl rfl (by decide) wa_0 (by decide) (by decide) (by decide) (Nat.le_of_ble_eq_true rfl) (Nat.le_of_ble_eq_true rfl) d_X11_init_49 ?_
  show gb_J Γ M_X11_init _ _ _ _ (pre ++ [.inr (11, [0, 0, (c + 1) + 3, (c + 2) + 3, (c + 3) + 3, (c + 4) + 3, (c + 5) + 3, 2, 0, 2, 2, 0, 2, 0, 0, 0, 0, 1, 0, 0, 0, 0, 2, 0, 2, 2, 0, 2, 2, 0, 0, 2, 2, 2, 0, 2, 2, 2, 0, 1, 1, 1, 1, 2, 2, 2, 2, 2, 2, 0, 0, 0, 0, 1, 2, 0]), .inl (0, 7), .inl (0, 5520), .inl (0, 11040), .inl (2, 2), .inl (0, 486), .inl (0, 16)]) _ _ _ _
  generalize hg6 : gb_z g5 (c + 6) = g6
  refine gb_putrP (i := 0) hc rfl f_X11_26 (fun _ => ⟨rfl, rfl⟩) (Nat.le_of_ble_eq_true rfl) (fun _ => rfl) (fun _ => rfl) d_X11_init_51 ?_
  show gb_J Γ M_X11_init _ _ _ _ (pre ++ [.inr (11, [0, 0, (c + 1) + 3, (c + 2) + 3, (c + 3) + 3, (c + 4) + 3, (c + 5) + 3, (c + 6) + 3, 0, 2, 2, 0, 2, 0, 0, 0, 0, 1, 0, 0, 0, 0, 2, 0, 2, 2, 0, 2, 2, 0, 0, 2, 2, 2, 0, 2, 2, 2, 0, 1, 1, 1, 1, 2, 2, 2, 2, 2, 2, 0, 0, 0, 0, 1, 2, 0]), .inl (0, 7), .inl (0, 5520), .inl (0, 11040), .inl (2, 2), .inl (0, 486), .inl (0, 16)]) _ _ _ _
  refine gb_aload_n d_X11_init_54 rfl ?_
  refine gb_sipush 432 d_X11_init_55 rfl ?_
  refine gb_newarrP (n := 7) (N := 432) hc rfl rfl (by decide) wa_0 (by decide) (by decide) (by decide) (Nat.le_of_ble_eq_true rfl) (Nat.le_of_ble_eq_true rfl) d_X11_init_58 ?_
  show gb_J Γ M_X11_init _ _ _ _ (pre ++ [.inr (11, [0, 0, (c + 1) + 3, (c + 2) + 3, (c + 3) + 3, (c + 4) + 3, (c + 5) + 3, (c + 6) + 3, 0, 2, 2, 0, 2, 0, 0, 0, 0, 1, 0, 0, 0, 0, 2, 0, 2, 2, 0, 2, 2, 0, 0, 2, 2, 2, 0, 2, 2, 2, 0, 1, 1, 1, 1, 2, 2, 2, 2, 2, 2, 0, 0, 0, 0, 1, 2, 0]), .inl (0, 7), .inl (0, 5520), .inl (0, 11040), .inl (2, 2), .inl (0, 486), .inl (0, 16), .inl (0, 432)]) _ _ _ _
  generalize hg7 : gb_z g6 (c + 7) = g7
  refine gb_putrP (i := 0) hc rfl f_X11_29 (fun _ => ⟨rfl, rfl⟩) (Nat.le_of_ble_eq_true rfl) (fun _ => rfl) (fun _ => rfl) d_X11_init_60 ?_
  show gb_J Γ M_X11_init _ _ _ _ (pre ++ [.inr (11, [0, 0, (c + 1) + 3, (c + 2) + 3, (c + 3) + 3, (c + 4) + 3, (c + 5) + 3, (c + 6) + 3, 0, (c + 7) + 3, 2, 0, 2, 0, 0, 0, 0, 1, 0, 0, 0, 0, 2, 0, 2, 2, 0, 2, 2, 0, 0, 2, 2, 2, 0, 2, 2, 2, 0, 1, 1, 1, 1, 2, 2, 2, 2, 2, 2, 0, 0, 0, 0, 1, 2, 0]), .inl (0, 7), .inl (0, 5520), .inl (0, 11040), .inl (2, 2), .inl (0, 486), .inl (0, 16), .inl (0, 432)]) _ _ _ _
  refine gb_aload_n d_X11_init_63 rfl ?_
  refine gb_bipush 16 d_X11_init_64 rfl ?_
  refine gb_newarrP (n := 8) (N := 16) hc rfl rfl (by decide) wa_0 (by decide) (by decide) (by decide) (Nat.le_of_ble_eq_true rfl) (Nat.le_of_ble_eq_true rfl) d_X11_init_66 ?_
  show gb_J Γ M_X11_init _ _ _ _ (pre ++ [.inr (11, [0, 0, (c + 1) + 3, (c + 2) + 3, (c + 3) + 3, (c + 4) + 3, (c + 5) + 3, (c + 6) + 3, 0, (c + 7) + 3, 2, 0, 2, 0, 0, 0, 0, 1, 0, 0, 0, 0, 2, 0, 2, 2, 0, 2, 2, 0, 0, 2, 2, 2, 0, 2, 2, 2, 0, 1, 1, 1, 1, 2, 2, 2, 2, 2, 2, 0, 0, 0, 0, 1, 2, 0]), .inl (0, 7), .inl (0, 5520), .inl (0, 11040), .inl (2, 2), .inl (0, 486), .inl (0, 16), .inl (0, 432), .inl (0, 16)]) _ _ _ _
  generalize hg8 : gb_z g7 (c + 8) = g8
  refine gb_putrP (i := 0) hc rfl f_X11_32 (fun _ => ⟨rfl, rfl⟩) (Nat.le_of_ble_eq_true rfl) (fun _ => rfl) (fun _ => rfl) d_X11_init_68 ?_
  show gb_J Γ M_X11_init _ _ _ _ (pre ++ [.inr (11, [0, 0, (c + 1) + 3, (c + 2) + 3, (c + 3) + 3, (c + 4) + 3, (c + 5) + 3, (c + 6) + 3, 0, (c + 7) + 3, (c + 8) + 3, 0, 2, 0, 0, 0, 0, 1, 0, 0, 0, 0, 2, 0, 2, 2, 0, 2, 2, 0, 0, 2, 2, 2, 0, 2, 2, 2, 0, 1, 1, 1, 1, 2, 2, 2, 2, 2, 2, 0, 0, 0, 0, 1, 2, 0]), .inl (0, 7), .inl (0, 5520), .inl (0, 11040), .inl (2, 2), .inl (0, 486), .inl (0, 16), .inl (0, 432), .inl (0, 16)]) _ _ _ _
  refine gb_aload_n d_X11_init_71 rfl ?_
  refine gb_sipush 400 d_X11_init_72 rfl ?_
  refine gb_newarrP (n := 9) (N := 400) hc rfl rfl (by decide) wa_0 (by decide) (by decide) (by decide) (Nat.le_of_ble_eq_true rfl) (Nat.le_of_ble_eq_true rfl) d_X11_init_75 ?_
  show gb_J Γ M_X11_init _ _ _ _ (pre ++ [.inr (11, [0, 0, (c + 1) + 3, (c + 2) + 3, (c + 3) + 3, (c + 4) + 3, (c + 5) + 3, (c + 6) + 3, 0, (c + 7) + 3, (c + 8) + 3, 0, 2, 0, 0, 0, 0, 1, 0, 0, 0, 0, 2, 0, 2, 2, 0, 2, 2, 0, 0, 2, 2, 2, 0, 2, 2, 2, 0, 1, 1, 1, 1, 2, 2, 2, 2, 2, 2, 0, 0, 0, 0, 1, 2, 0]), .inl (0, 7), .inl (0, 5520), .inl (0, 11040), .inl (2, 2), .inl (0, 486), .inl (0, 16), .inl (0, 432), .inl (0, 16), .inl (0, 400)]) _ _ _ _
  generalize hg9 : gb_z g8 (c + 9) = g9
  refine gb_putrP (i := 0) hc rfl f_X11_35 (fun _ => ⟨rfl, rfl⟩) (Nat.le_of_ble_eq_true rfl) (fun _ => rfl) (fun _ => rfl) d_X11_init_77 ?_
  show gb_J Γ M_X11_init _ _ _ _ (pre ++ [.inr (11, [0, 0, (c + 1) + 3, (c + 2) + 3, (c + 3) + 3, (c + 4) + 3, (c + 5) + 3, (c + 6) + 3, 0, (c + 7) + 3, (c + 8) + 3, 0, (c + 9) + 3, 0, 0, 0, 0, 1, 0, 0, 0, 0, 2, 0, 2, 2, 0, 2, 2, 0, 0, 2, 2, 2, 0, 2, 2, 2, 0, 1, 1, 1, 1, 2, 2, 2, 2, 2, 2, 0, 0, 0, 0, 1, 2, 0]), .inl (0, 7), .inl (0, 5520), .inl (0, 11040), .inl (2, 2), .inl (0, 486), .inl (0, 16), .inl (0, 432), .inl (0, 16), .inl (0, 400)]) _ _ _ _
  refine gb_aload_n d_X11_init_80 rfl ?_
  refine gb_iconst (-1) d_X11_init_81 rfl ?_
  refine gb_puti f_X11_38 (fun _ => ⟨rfl, rfl⟩) (gb_at (i := 0) hc rfl) rfl rfl rfl d_X11_init_82 ?_
  generalize hg10 : gb_pi g9 (c + 0) 18 (-1) = g10
  refine gb_aload_n d_X11_init_85 rfl ?_
  refine gb_bipush 96 d_X11_init_86 rfl ?_
  refine gb_newarrP (n := 10) (N := 96) hc rfl rfl (by decide) wa_0 (by decide) (by decide) (by decide) (Nat.le_of_ble_eq_true rfl) (Nat.le_of_ble_eq_true rfl) d_X11_init_88 ?_
  show gb_J Γ M_X11_init _ _ _ _ (pre ++ [.inr (11, [0, 0, (c + 1) + 3, (c + 2) + 3, (c + 3) + 3, (c + 4) + 3, (c + 5) + 3, (c + 6) + 3, 0, (c + 7) + 3, (c + 8) + 3, 0, (c + 9) + 3, 0, 0, 0, 0, 1, 0, 0, 0, 0, 2, 0, 2, 2, 0, 2, 2, 0, 0, 2, 2, 2, 0, 2, 2, 2, 0, 1, 1, 1, 1, 2, 2, 2, 2, 2, 2, 0, 0, 0, 0, 1, 2, 0]), .inl (0, 7), .inl (0, 5520), .inl (0, 11040), .inl (2, 2), .inl (0, 486), .inl (0, 16), .inl (0, 432), .inl (0, 16), .inl (0, 400), .inl (0, 96)]) _ _ _ _
  generalize hg11 : gb_z g10 (c + 10) = g11
  refine gb_putrP (i := 0) hc rfl f_X11_42 (fun _ => ⟨rfl, rfl⟩) (Nat.le_of_ble_eq_true rfl) (fun _ => rfl) (fun _ => rfl) d_X11_init_90 ?_
  show gb_J Γ M_X11_init _ _ _ _ (pre ++ [.inr (11, [0, 0, (c + 1) + 3, (c + 2) + 3, (c + 3) + 3, (c + 4) + 3, (c + 5) + 3, (c + 6) + 3, 0, (c + 7) + 3, (c + 8) + 3, 0, (c + 9) + 3, 0, 0, 0, 0, 1, 0, 0, 0, 0, (c + 10) + 3, 0, 2, 2, 0, 2, 2, 0, 0, 2, 2, 2, 0, 2, 2, 2, 0, 1, 1, 1, 1, 2, 2, 2, 2, 2, 2, 0, 0, 0, 0, 1, 2, 0]), .inl (0, 7), .inl (0, 5520), .inl (0, 11040), .inl (2, 2), .inl (0, 486), .inl (0, 16), .inl (0, 432), .inl (0, 16), .inl (0, 400), .inl (0, 96)]) _ _ _ _
  refine gb_aload_n d_X11_init_93 rfl ?_
  refine gb_sipush 400 d_X11_init_94 rfl ?_
  refine gb_newarrP (n := 11) (N := 400) hc rfl rfl (by decide) wa_0 (by decide) (by decide) (by decide) (Nat.le_of_ble_eq_true rfl) (Nat.le_of_ble_eq_true rfl) d_X11_init_97 ?_
  show gb_J Γ M_X11_init _ _ _ _ (pre ++ [.inr (11, [0, 0, (c + 1) + 3, (c + 2) + 3, (c + 3) + 3, (c + 4) + 3, (c + 5) + 3, (c + 6) + 3, 0, (c + 7) + 3, (c + 8) + 3, 0, (c + 9) + 3, 0, 0, 0, 0, 1, 0, 0, 0, 0, (c + 10) + 3, 0, 2, 2, 0, 2, 2, 0, 0, 2, 2, 2, 0, 2, 2, 2, 0, 1, 1, 1, 1, 2, 2, 2, 2, 2, 2, 0, 0, 0, 0, 1, 2, 0]), .inl (0, 7), .inl (0, 5520), .inl (0, 11040), .inl (2, 2), .inl (0, 486), .inl (0, 16), .inl (0, 432), .inl (0, 16), .inl (0, 400), .inl (0, 96), .inl (0, 400)]) _ _ _ _
  generalize hg12 : gb_z g11 (c + 11) = g12
  refine gb_putrP (i := 0) hc rfl f_X11_45 (fun _ => ⟨rfl, rfl⟩) (Nat.le_of_ble_eq_true rfl) (fun _ => rfl) (fun _ => rfl) d_X11_init_99 ?_
  show gb_J Γ M_X11_init _ _ _ _ (pre ++ [.inr (11, [0, 0, (c + 1) + 3, (c + 2) + 3, (c + 3) + 3, (c + 4) + 3, (c + 5) + 3, (c + 6) + 3, 0, (c + 7) + 3, (c + 8) + 3, 0, (c + 9) + 3, 0, 0, 0, 0, 1, 0, 0, 0, 0, (c + 10) + 3, 0, (c + 11) + 3, 2, 0, 2, 2, 0, 0, 2, 2, 2, 0, 2, 2, 2, 0, 1, 1, 1, 1, 2, 2, 2, 2, 2, 2, 0, 0, 0, 0, 1, 2, 0]), .inl (0, 7), .inl (0, 5520), .inl (0, 11040), .inl (2, 2), .inl (0, 486), .inl (0, 16), .inl (0, 432), .inl (0, 16), .inl (0, 400), .inl (0, 96), .inl (0, 400)]) _ _ _ _
  refine gb_aload_n d_X11_init_102 rfl ?_
  refine gb_sipush 400 d_X11_init_103 rfl ?_
  refine gb_newarrP (n := 12) (N := 400) hc rfl rfl (by decide) wa_0 (by decide) (by decide) (by decide) (Nat.le_of_ble_eq_true rfl) (Nat.le_of_ble_eq_true rfl) d_X11_init_106 ?_
  show gb_J Γ M_X11_init _ _ _ _ (pre ++ [.inr (11, [0, 0, (c + 1) + 3, (c + 2) + 3, (c + 3) + 3, (c + 4) + 3, (c + 5) + 3, (c + 6) + 3, 0, (c + 7) + 3, (c + 8) + 3, 0, (c + 9) + 3, 0, 0, 0, 0, 1, 0, 0, 0, 0, (c + 10) + 3, 0, (c + 11) + 3, 2, 0, 2, 2, 0, 0, 2, 2, 2, 0, 2, 2, 2, 0, 1, 1, 1, 1, 2, 2, 2, 2, 2, 2, 0, 0, 0, 0, 1, 2, 0]), .inl (0, 7), .inl (0, 5520), .inl (0, 11040), .inl (2, 2), .inl (0, 486), .inl (0, 16), .inl (0, 432), .inl (0, 16), .inl (0, 400), .inl (0, 96), .inl (0, 400), .inl (0, 400)]) _ _ _ _
  generalize hg13 : gb_z g12 (c + 12) = g13
  refine gb_putrP (i := 0) hc rfl f_X11_48 (fun _ => ⟨rfl, rfl⟩) (Nat.le_of_ble_eq_true rfl) (fun _ => rfl) (fun _ => rfl) d_X11_init_108 ?_
  show gb_J Γ M_X11_init _ _ _ _ (pre ++ [.inr (11, [0, 0, (c + 1) + 3, (c + 2) + 3, (c + 3) + 3, (c + 4) + 3, (c + 5) + 3, (c + 6) + 3, 0, (c + 7) + 3, (c + 8) + 3, 0, (c + 9) + 3, 0, 0, 0, 0, 1, 0, 0, 0, 0, (c + 10) + 3, 0, (c + 11) + 3, (c + 12) + 3, 0, 2, 2, 0, 0, 2, 2, 2, 0, 2, 2, 2, 0, 1, 1, 1, 1, 2, 2, 2, 2, 2, 2, 0, 0, 0, 0, 1, 2, 0]), .inl (0, 7), .inl (0, 5520), .inl (0, 11040), .inl (2, 2), .inl (0, 486), .inl (0, 16), .inl (0, 432), .inl (0, 16), .inl (0, 400), .inl (0, 96), .inl (0, 400), .inl (0, 400)]) _ _ _ _
  refine gb_aload_n d_X11_init_111 rfl ?_
  refine gb_sipush 400 d_X11_init_112 rfl ?_
  refine gb_newarrP (n := 13) (N := 400) hc rfl rfl (by decide) wa_0 (by decide) (by decide) (by decide) (Nat.le_of_ble_eq_true rfl) (Nat.le_of_ble_eq_true rfl) d_X11_init_115 ?_
  show gb_J Γ M_X11_init _ _ _ _ (pre ++ [.inr (11, [0, 0, (c + 1) + 3, (c + 2) + 3, (c + 3) + 3, (c + 4) + 3, (c + 5) + 3, (c + 6) + 3, 0, (c + 7) + 3, (c + 8) + 3, 0, (c + 9) + 3, 0, 0, 0, 0, 1, 0, 0, 0, 0, (c + 10) + 3, 0, (c + 11) + 3, (c + 12) + 3, 0, 2, 2, 0, 0, 2, 2, 2, 0, 2, 2, 2, 0, 1, 1, 1, 1, 2, 2, 2, 2, 2, 2, 0, 0, 0, 0, 1, 2, 0]), .inl (0, 7), .inl (0, 5520), .inl (0, 11040), .inl (2, 2), .inl (0, 486), .inl (0, 16), .inl (0, 432), .inl (0, 16), .inl (0, 400), .inl (0, 96), .inl (0, 400), .inl (0, 400), .inl (0, 400)]) _ _ _ _
  generalize hg14 : gb_z g13 (c + 13) = g14
  refine gb_putrP (i := 0) hc rfl f_X11_51 (fun _ => ⟨rfl, rfl⟩) (Nat.le_of_ble_eq_true rfl) (fun _ => rfl) (fun _ => rfl) d_X11_init_117 ?_
  show gb_J Γ M_X11_init _ _ _ _ (pre ++ [.inr (11, [0, 0, (c + 1) + 3, (c + 2) + 3, (c + 3) + 3, (c + 4) + 3, (c + 5) + 3, (c + 6) + 3, 0, (c + 7) + 3, (c + 8) + 3, 0, (c + 9) + 3, 0, 0, 0, 0, 1, 0, 0, 0, 0, (c + 10) + 3, 0, (c + 11) + 3, (c + 12) + 3, 0, (c + 13) + 3, 2, 0, 0, 2, 2, 2, 0, 2, 2, 2, 0, 1, 1, 1, 1, 2, 2, 2, 2, 2, 2, 0, 0, 0, 0, 1, 2, 0]), .inl (0, 7), .inl (0, 5520), .inl (0, 11040), .inl (2, 2), .inl (0, 486), .inl (0, 16), .inl (0, 432), .inl (0, 16), .inl (0, 400), .inl (0, 96), .inl (0, 400), .inl (0, 400), .inl (0, 400)]) _ _ _ _
  refine gb_aload_n d_X11_init_120 rfl ?_
  refine gb_sipush 400 d_X11_init_121 rfl ?_
  refine gb_newarrP (n := 14) (N := 400) hc rfl rfl (by decide) wa_0 (by decide) (by decide) (by decide) (Nat.le_of_ble_eq_true rfl) (Nat.le_of_ble_eq_true rfl) d_X11_init_124 ?_
  show gb_J Γ M_X11_init _ _ _ _ (pre ++ [.inr (11, [0, 0, (c + 1) + 3, (c + 2) + 3, (c + 3) + 3, (c + 4) + 3, (c + 5) + 3, (c + 6) + 3, 0, (c + 7) + 3, (c + 8) + 3, 0, (c + 9) + 3, 0, 0, 0, 0, 1, 0, 0, 0, 0, (c + 10) + 3, 0, (c + 11) + 3, (c + 12) + 3, 0, (c + 13) + 3, 2, 0, 0, 2, 2, 2, 0, 2, 2, 2, 0, 1, 1, 1, 1, 2, 2, 2, 2, 2, 2, 0, 0, 0, 0, 1, 2, 0]), .inl (0, 7), .inl (0, 5520), .inl (0, 11040), .inl (2, 2), .inl (0, 486), .inl (0, 16), .inl (0, 432), .inl (0, 16), .inl (0, 400), .inl (0, 96), .inl (0, 400), .inl (0, 400), .inl (0, 400), .inl (0, 400)]) _ _ _ _
  generalize hg15 : gb_z g14 (c + 14) = g15
  refine gb_putrP (i := 0) hc rfl f_X11_54 (fun _ => ⟨rfl, rfl⟩) (Nat.le_of_ble_eq_true rfl) (fun _ => rfl) (fun _ => rfl) d_X11_init_126 ?_
  show gb_J Γ M_X11_init _ _ _ _ (pre ++ [.inr (11, [0, 0, (c + 1) + 3, (c + 2) + 3, (c + 3) + 3, (c + 4) + 3, (c + 5) + 3, (c + 6) + 3, 0, (c + 7) + 3, (c + 8) + 3, 0, (c + 9) + 3, 0, 0, 0, 0, 1, 0, 0, 0, 0, (c + 10) + 3, 0, (c + 11) + 3, (c + 12) + 3, 0, (c + 13) + 3, (c + 14) + 3, 0, 0, 2, 2, 2, 0, 2, 2, 2, 0, 1, 1, 1, 1, 2, 2, 2, 2, 2, 2, 0, 0, 0, 0, 1, 2, 0]), .inl (0, 7), .inl (0, 5520), .inl (0, 11040), .inl (2, 2), .inl (0, 486), .inl (0, 16), .inl (0, 432), .inl (0, 16), .inl (0, 400), .inl (0, 96), .inl (0, 400), .inl (0, 400), .inl (0, 400), .inl (0, 400)]) _ _ _ _
  refine gb_aload_n d_X11_init_129 rfl ?_
  refine gb_bipush 9 d_X11_init_130 rfl ?_
  refine gb_newarrP (n := 15) (N := 9) hc rfl rfl (by decide) wa_1 (by decide) (by decide) (by decide) (Nat.le_of_ble_eq_true rfl) (Nat.le_of_ble_eq_true rfl) d_X11_init_132 ?_
  show gb_J Γ M_X11_init _ _ _ _ (pre ++ [.inr (11, [0, 0, (c + 1) + 3, (c + 2) + 3, (c + 3) + 3, (c + 4) + 3, (c + 5) + 3, (c + 6) + 3, 0, (c + 7) + 3, (c + 8) + 3, 0, (c + 9) + 3, 0, 0, 0, 0, 1, 0, 0, 0, 0, (c + 10) + 3, 0, (c + 11) + 3, (c + 12) + 3, 0, (c + 13) + 3, (c + 14) + 3, 0, 0, 2, 2, 2, 0, 2, 2, 2, 0, 1, 1, 1, 1, 2, 2, 2, 2, 2, 2, 0, 0, 0, 0, 1, 2, 0]), .inl (0, 7), .inl (0, 5520), .inl (0, 11040), .inl (2, 2), .inl (0, 486), .inl (0, 16), .inl (0, 432), .inl (0, 16), .inl (0, 400), .inl (0, 96), .inl (0, 400), .inl (0, 400), .inl (0, 400), .inl (0, 400), .inl (1, 9)]) _ _ _ _
  generalize hg16 : gb_z g15 (c + 15) = g16
  refine gb_dup d_X11_init_134 rfl ?_
  refine gb_iconst 0 d_X11_init_135 rfl ?_
  refine gb_ldc2 245220 k_X11_57 d_X11_init_136 ?_
  refine gb_last_ 0 rfl (gb_at (i := 15) hc rfl) (by unfold vp_in; decide) d_X11_init_139 ?_
  generalize hg17 : gb_pj g16 (c + 15) 0 245220 = g17
  refine gb_dup d_X11_init_140 rfl ?_
  refine gb_iconst 1 d_X11_init_141 rfl ?_
  refine gb_ldc2 67173 k_X11_59 d_X11_init_142 ?_
  refine gb_last_ 1 rfl (gb_at (i := 15) hc rfl) (by unfold vp_in; decide) d_X11_init_145 ?_
  generalize hg18 : gb_pj g17 (c + 15) 1 67173 = g18
  refine gb_dup d_X11_init_146 rfl ?_
  refine gb_iconst 2 d_X11_init_147 rfl ?_
  refine gb_ldc2 14839 k_X11_61 d_X11_init_148 ?_
  refine gb_last_ 2 rfl (gb_at (i := 15) hc rfl) (by unfold vp_in; decide) d_X11_init_151 ?_
  generalize hg19 : gb_pj g18 (c + 15) 2 14839 = g19
  refine gb_dup d_X11_init_152 rfl ?_
  refine gb_iconst 3 d_X11_init_153 rfl ?_
  refine gb_ldc2 777297172 k_X11_63 d_X11_init_154 ?_
  refine gb_last_ 3 rfl (gb_at (i := 15) hc rfl) (by unfold vp_in; decide) d_X11_init_157 ?_
  generalize hg20 : gb_pj g19 (c + 15) 3 777297172 = g20
  refine gb_dup d_X11_init_158 rfl ?_
  refine gb_iconst 4 d_X11_init_159 rfl ?_
  refine gb_ldc2 241700 k_X11_65 d_X11_init_160 ?_
  refine gb_last_ 4 rfl (gb_at (i := 15) hc rfl) (by unfold vp_in; decide) d_X11_init_163 ?_
  generalize hg21 : gb_pj g20 (c + 15) 4 241700 = g21
  refine gb_dup d_X11_init_164 rfl ?_
  refine gb_iconst 5 d_X11_init_165 rfl ?_
  refine gb_ldc2 12619123 k_X11_67 d_X11_init_166 ?_
  refine gb_last_ 5 rfl (gb_at (i := 15) hc rfl) (by unfold vp_in; decide) d_X11_init_169 ?_
  generalize hg22 : gb_pj g21 (c + 15) 5 12619123 = g22
  refine gb_dup d_X11_init_170 rfl ?_
  refine gb_bipush 6 d_X11_init_171 rfl ?_
  refine gb_ldc2 17171557 k_X11_69 d_X11_init_173 ?_
  refine gb_last_ 6 rfl (gb_at (i := 15) hc rfl) (by unfold vp_in; decide) d_X11_init_176 ?_
  generalize hg23 : gb_pj g22 (c + 15) 6 17171557 = g23
  refine gb_dup d_X11_init_177 rfl ?_
  refine gb_bipush 7 d_X11_init_178 rfl ?_
  refine gb_ldc2 14137992 k_X11_71 d_X11_init_180 ?_
  refine gb_last_ 7 rfl (gb_at (i := 15) hc rfl) (by unfold vp_in; decide) d_X11_init_183 ?_
  generalize hg24 : gb_pj g23 (c + 15) 7 14137992 = g24
  refine gb_dup d_X11_init_184 rfl ?_
  refine gb_bipush 8 d_X11_init_185 rfl ?_
  refine gb_ldc2 441828 k_X11_73 d_X11_init_187 ?_
  refine gb_last_ 8 rfl (gb_at (i := 15) hc rfl) (by unfold vp_in; decide) d_X11_init_190 ?_
  generalize hg25 : gb_pj g24 (c + 15) 8 441828 = g25
  refine gb_putrP (i := 0) hc rfl f_X11_75 (fun _ => ⟨rfl, rfl⟩) (Nat.le_of_ble_eq_true rfl) (fun _ => rfl) (fun _ => rfl) d_X11_init_191 ?_
  show gb_J Γ M_X11_init _ _ _ _ (pre ++ [.inr (11, [0, 0, (c + 1) + 3, (c + 2) + 3, (c + 3) + 3, (c + 4) + 3, (c + 5) + 3, (c + 6) + 3, 0, (c + 7) + 3, (c + 8) + 3, 0, (c + 9) + 3, 0, 0, 0, 0, 1, 0, 0, 0, 0, (c + 10) + 3, 0, (c + 11) + 3, (c + 12) + 3, 0, (c + 13) + 3, (c + 14) + 3, 0, 0, (c + 15) + 3, 2, 2, 0, 2, 2, 2, 0, 1, 1, 1, 1, 2, 2, 2, 2, 2, 2, 0, 0, 0, 0, 1, 2, 0]), .inl (0, 7), .inl (0, 5520), .inl (0, 11040), .inl (2, 2), .inl (0, 486), .inl (0, 16), .inl (0, 432), .inl (0, 16), .inl (0, 400), .inl (0, 96), .inl (0, 400), .inl (0, 400), .inl (0, 400), .inl (0, 400), .inl (1, 9)]) _ _ _ _
  refine gb_aload_n d_X11_init_194 rfl ?_
  refine gb_bipush 7 d_X11_init_195 rfl ?_
  refine gb_newarrP (n := 16) (N := 7) hc rfl rfl (by decide) wa_1 (by decide) (by decide) (by decide) (Nat.le_of_ble_eq_true rfl) (Nat.le_of_ble_eq_true rfl) d_X11_init_197 ?_
  show gb_J Γ M_X11_init _ _ _ _ (pre ++ [.inr (11, [0, 0, (c + 1) + 3, (c + 2) + 3, (c + 3) + 3, (c + 4) + 3, (c + 5) + 3, (c + 6) + 3, 0, (c + 7) + 3, (c + 8) + 3, 0, (c + 9) + 3, 0, 0, 0, 0, 1, 0, 0, 0, 0, (c + 10) + 3, 0, (c + 11) + 3, (c + 12) + 3, 0, (c + 13) + 3, (c + 14) + 3, 0, 0, (c + 15) + 3, 2, 2, 0, 2, 2, 2, 0, 1, 1, 1, 1, 2, 2, 2, 2, 2, 2, 0, 0, 0, 0, 1, 2, 0]), .inl (0, 7), .inl (0, 5520), .inl (0, 11040), .inl (2, 2), .inl (0, 486), .inl (0, 16), .inl (0, 432), .inl (0, 16), .inl (0, 400), .inl (0, 96), .inl (0, 400), .inl (0, 400), .inl (0, 400), .inl (0, 400), .inl (1, 9), .inl (1, 7)]) _ _ _ _
  generalize hg26 : gb_z g25 (c + 16) = g26
  refine gb_dup d_X11_init_199 rfl ?_
  refine gb_iconst 0 d_X11_init_200 rfl ?_
  refine gb_ldc2 14137992 k_X11_71 d_X11_init_201 ?_
  refine gb_last_ 0 rfl (gb_at (i := 16) hc rfl) (by unfold vp_in; decide) d_X11_init_204 ?_
  generalize hg27 : gb_pj g26 (c + 16) 0 14137992 = g27
  refine gb_dup d_X11_init_205 rfl ?_
  refine gb_iconst 1 d_X11_init_206 rfl ?_
  refine gb_ldc2 146885 k_X11_79 d_X11_init_207 ?_
  refine gb_last_ 1 rfl (gb_at (i := 16) hc rfl) (by unfold vp_in; decide) d_X11_init_210 ?_
  generalize hg28 : gb_pj g27 (c + 16) 1 146885 = g28
  refine gb_dup d_X11_init_211 rfl ?_
  refine gb_iconst 2 d_X11_init_212 rfl ?_
  refine gb_ldc2 404362868 k_X11_81 d_X11_init_213 ?_
  refine gb_last_ 2 rfl (gb_at (i := 16) hc rfl) (by unfold vp_in; decide) d_X11_init_216 ?_
  generalize hg29 : gb_pj g28 (c + 16) 2 404362868 = g29
  refine gb_dup d_X11_init_217 rfl ?_
  refine gb_iconst 3 d_X11_init_218 rfl ?_
  refine gb_ldc2 211015237 k_X11_83 d_X11_init_219 ?_
  refine gb_last_ 3 rfl (gb_at (i := 16) hc rfl) (by unfold vp_in; decide) d_X11_init_222 ?_
  generalize hg30 : gb_pj g29 (c + 16) 3 211015237 = g30
  refine gb_dup d_X11_init_223 rfl ?_
  refine gb_iconst 4 d_X11_init_224 rfl ?_
  refine gb_ldc2 12921972167 k_X11_85 d_X11_init_225 ?_
  refine gb_last_ 4 rfl (gb_at (i := 16) hc rfl) (by unfold vp_in; decide) d_X11_init_228 ?_
  generalize hg31 : gb_pj g30 (c + 16) 4 12921972167 = g31
  refine gb_dup d_X11_init_229 rfl ?_
  refine gb_iconst 5 d_X11_init_230 rfl ?_
  refine gb_ldc2 14839 k_X11_61 d_X11_init_231 ?_
  refine gb_last_ 5 rfl (gb_at (i := 16) hc rfl) (by unfold vp_in; decide) d_X11_init_234 ?_
  generalize hg32 : gb_pj g31 (c + 16) 5 14839 = g32
  refine gb_dup d_X11_init_235 rfl ?_
  refine gb_bipush 6 d_X11_init_236 rfl ?_
  refine gb_ldc2 777297172 k_X11_63 d_X11_init_238 ?_
  refine gb_last_ 6 rfl (gb_at (i := 16) hc rfl) (by unfold vp_in; decide) d_X11_init_241 ?_
  generalize hg33 : gb_pj g32 (c + 16) 6 777297172 = g33
  refine gb_putrP (i := 0) hc rfl f_X11_87 (fun _ => ⟨rfl, rfl⟩) (Nat.le_of_ble_eq_true rfl) (fun _ => rfl) (fun _ => rfl) d_X11_init_242 ?_
  show gb_J Γ M_X11_init _ _ _ _ (pre ++ [.inr (11, [0, 0, (c + 1) + 3, (c + 2) + 3, (c + 3) + 3, (c + 4) + 3, (c + 5) + 3, (c + 6) + 3, 0, (c + 7) + 3, (c + 8) + 3, 0, (c + 9) + 3, 0, 0, 0, 0, 1, 0, 0, 0, 0, (c + 10) + 3, 0, (c + 11) + 3, (c + 12) + 3, 0, (c + 13) + 3, (c + 14) + 3, 0, 0, (c + 15) + 3, (c + 16) + 3, 2, 0, 2, 2, 2, 0, 1, 1, 1, 1, 2, 2, 2, 2, 2, 2, 0, 0, 0, 0, 1, 2, 0]), .inl (0, 7), .inl (0, 5520), .inl (0, 11040), .inl (2, 2), .inl (0, 486), .inl (0, 16), .inl (0, 432), .inl (0, 16), .inl (0, 400), .inl (0, 96), .inl (0, 400), .inl (0, 400), .inl (0, 400), .inl (0, 400), .inl (1, 9), .inl (1, 7)]) _ _ _ _
  refine gb_aload_n d_X11_init_245 rfl ?_
  refine gb_iconst 4 d_X11_init_246 rfl ?_
  refine gb_newarrP (n := 17) (N := 4) hc rfl rfl (by decide) wa_1 (by decide) (by decide) (by decide) (Nat.le_of_ble_eq_true rfl) (Nat.le_of_ble_eq_true rfl) d_X11_init_247 ?_
  show gb_J Γ M_X11_init _ _ _ _ (pre ++ [.inr (11, [0, 0, (c + 1) + 3, (c + 2) + 3, (c + 3) + 3, (c + 4) + 3, (c + 5) + 3, (c + 6) + 3, 0, (c + 7) + 3, (c + 8) + 3, 0, (c + 9) + 3, 0, 0, 0, 0, 1, 0, 0, 0, 0, (c + 10) + 3, 0, (c + 11) + 3, (c + 12) + 3, 0, (c + 13) + 3, (c + 14) + 3, 0, 0, (c + 15) + 3, (c + 16) + 3, 2, 0, 2, 2, 2, 0, 1, 1, 1, 1, 2, 2, 2, 2, 2, 2, 0, 0, 0, 0, 1, 2, 0]), .inl (0, 7), .inl (0, 5520), .inl (0, 11040), .inl (2, 2), .inl (0, 486), .inl (0, 16), .inl (0, 432), .inl (0, 16), .inl (0, 400), .inl (0, 96), .inl (0, 400), .inl (0, 400), .inl (0, 400), .inl (0, 400), .inl (1, 9), .inl (1, 7), .inl (1, 4)]) _ _ _ _
  generalize hg34 : gb_z g33 (c + 17) = g34
  refine gb_dup d_X11_init_249 rfl ?_
  refine gb_iconst 0 d_X11_init_250 rfl ?_
  refine gb_ldc2 14145715 k_X11_90 d_X11_init_251 ?_
  refine gb_last_ 0 rfl (gb_at (i := 17) hc rfl) (by unfold vp_in; decide) d_X11_init_254 ?_
  generalize hg35 : gb_pj g34 (c + 17) 0 14145715 = g35
  refine gb_dup d_X11_init_255 rfl ?_
  refine gb_iconst 1 d_X11_init_256 rfl ?_
  refine gb_ldc2 117095059 k_X11_92 d_X11_init_257 ?_
  refine gb_last_ 1 rfl (gb_at (i := 17) hc rfl) (by unfold vp_in; decide) d_X11_init_260 ?_
  generalize hg36 : gb_pj g35 (c + 17) 1 117095059 = g36
  refine gb_dup d_X11_init_261 rfl ?_
  refine gb_iconst 2 d_X11_init_262 rfl ?_
  refine gb_ldc2 7734419 k_X11_94 d_X11_init_263 ?_
  refine gb_last_ 2 rfl (gb_at (i := 17) hc rfl) (by unfold vp_in; decide) d_X11_init_266 ?_
  generalize hg37 : gb_pj g36 (c + 17) 2 7734419 = g37
  refine gb_dup d_X11_init_267 rfl ?_
  refine gb_iconst 3 d_X11_init_268 rfl ?_
  refine gb_ldc2 67155 k_X11_96 d_X11_init_269 ?_
  refine gb_last_ 3 rfl (gb_at (i := 17) hc rfl) (by unfold vp_in; decide) d_X11_init_272 ?_
  generalize hg38 : gb_pj g37 (c + 17) 3 67155 = g38
  refine gb_putrP (i := 0) hc rfl f_X11_98 (fun _ => ⟨rfl, rfl⟩) (Nat.le_of_ble_eq_true rfl) (fun _ => rfl) (fun _ => rfl) d_X11_init_273 ?_
  show gb_J Γ M_X11_init _ _ _ _ (pre ++ [.inr (11, [0, 0, (c + 1) + 3, (c + 2) + 3, (c + 3) + 3, (c + 4) + 3, (c + 5) + 3, (c + 6) + 3, 0, (c + 7) + 3, (c + 8) + 3, 0, (c + 9) + 3, 0, 0, 0, 0, 1, 0, 0, 0, 0, (c + 10) + 3, 0, (c + 11) + 3, (c + 12) + 3, 0, (c + 13) + 3, (c + 14) + 3, 0, 0, (c + 15) + 3, (c + 16) + 3, (c + 17) + 3, 0, 2, 2, 2, 0, 1, 1, 1, 1, 2, 2, 2, 2, 2, 2, 0, 0, 0, 0, 1, 2, 0]), .inl (0, 7), .inl (0, 5520), .inl (0, 11040), .inl (2, 2), .inl (0, 486), .inl (0, 16), .inl (0, 432), .inl (0, 16), .inl (0, 400), .inl (0, 96), .inl (0, 400), .inl (0, 400), .inl (0, 400), .inl (0, 400), .inl (1, 9), .inl (1, 7), .inl (1, 4)]) _ _ _ _
  refine gb_aload_n d_X11_init_276 rfl ?_
  refine gb_bipush 13 d_X11_init_277 rfl ?_
  refine gb_newarrP (n := 18) (N := 13) hc rfl rfl (by decide) wa_1 (by decide) (by decide) (by decide) (Nat.le_of_ble_eq_true rfl) (Nat.le_of_ble_eq_true rfl) d_X11_init_279 ?_
  show gb_J Γ M_X11_init _ _ _ _ (pre ++ [.inr (11, [0, 0, (c + 1) + 3, (c + 2) + 3, (c + 3) + 3, (c + 4) + 3, (c + 5) + 3, (c + 6) + 3, 0, (c + 7) + 3, (c + 8) + 3, 0, (c + 9) + 3, 0, 0, 0, 0, 1, 0, 0, 0, 0, (c + 10) + 3, 0, (c + 11) + 3, (c + 12) + 3, 0, (c + 13) + 3, (c + 14) + 3, 0, 0, (c + 15) + 3, (c + 16) + 3, (c + 17) + 3, 0, 2, 2, 2, 0, 1, 1, 1, 1, 2, 2, 2, 2, 2, 2, 0, 0, 0, 0, 1, 2, 0]), .inl (0, 7), .inl (0, 5520), .inl (0, 11040), .inl (2, 2), .inl (0, 486), .inl (0, 16), .inl (0, 432), .inl (0, 16), .inl (0, 400), .inl (0, 96), .inl (0, 400), .inl (0, 400), .inl (0, 400), .inl (0, 400), .inl (1, 9), .inl (1, 7), .inl (1, 4), .inl (1, 13)]) _ _ _ _
  generalize hg39 : gb_z g38 (c + 18) = g39
  refine gb_putrP (i := 0) hc rfl f_X11_101 (fun _ => ⟨rfl, rfl⟩) (Nat.le_of_ble_eq_true rfl) (fun _ => rfl) (fun _ => rfl) d_X11_init_281 ?_
  show gb_J Γ M_X11_init _ _ _ _ (pre ++ [.inr (11, [0, 0, (c + 1) + 3, (c + 2) + 3, (c + 3) + 3, (c + 4) + 3, (c + 5) + 3, (c + 6) + 3, 0, (c + 7) + 3, (c + 8) + 3, 0, (c + 9) + 3, 0, 0, 0, 0, 1, 0, 0, 0, 0, (c + 10) + 3, 0, (c + 11) + 3, (c + 12) + 3, 0, (c + 13) + 3, (c + 14) + 3, 0, 0, (c + 15) + 3, (c + 16) + 3, (c + 17) + 3, 0, (c + 18) + 3, 2, 2, 0, 1, 1, 1, 1, 2, 2, 2, 2, 2, 2, 0, 0, 0, 0, 1, 2, 0]), .inl (0, 7), .inl (0, 5520), .inl (0, 11040), .inl (2, 2), .inl (0, 486), .inl (0, 16), .inl (0, 432), .inl (0, 16), .inl (0, 400), .inl (0, 96), .inl (0, 400), .inl (0, 400), .inl (0, 400), .inl (0, 400), .inl (1, 9), .inl (1, 7), .inl (1, 4), .inl (1, 13)]) _ _ _ _
  refine gb_aload_n d_X11_init_284 rfl ?_
  refine gb_bipush 13 d_X11_init_285 rfl ?_
  refine gb_newarrP (n := 19) (N := 13) hc rfl rfl (by decide) wa_1 (by decide) (by decide) (by decide) (Nat.le_of_ble_eq_true rfl) (Nat.le_of_ble_eq_true rfl) d_X11_init_287 ?_
  show gb_J Γ M_X11_init _ _ _ _ (pre ++ [.inr (11, [0, 0, (c + 1) + 3, (c + 2) + 3, (c + 3) + 3, (c + 4) + 3, (c + 5) + 3, (c + 6) + 3, 0, (c + 7) + 3, (c + 8) + 3, 0, (c + 9) + 3, 0, 0, 0, 0, 1, 0, 0, 0, 0, (c + 10) + 3, 0, (c + 11) + 3, (c + 12) + 3, 0, (c + 13) + 3, (c + 14) + 3, 0, 0, (c + 15) + 3, (c + 16) + 3, (c + 17) + 3, 0, (c + 18) + 3, 2, 2, 0, 1, 1, 1, 1, 2, 2, 2, 2, 2, 2, 0, 0, 0, 0, 1, 2, 0]), .inl (0, 7), .inl (0, 5520), .inl (0, 11040), .inl (2, 2), .inl (0, 486), .inl (0, 16), .inl (0, 432), .inl (0, 16), .inl (0, 400), .inl (0, 96), .inl (0, 400), .inl (0, 400), .inl (0, 400), .inl (0, 400), .inl (1, 9), .inl (1, 7), .inl (1, 4), .inl (1, 13), .inl (1, 13)]) _ _ _ _
  generalize hg40 : gb_z g39 (c + 19) = g40
  refine gb_putrP (i := 0) hc rfl f_X11_104 (fun _ => ⟨rfl, rfl⟩) (Nat.le_of_ble_eq_true rfl) (fun _ => rfl) (fun _ => rfl) d_X11_init_289 ?_
  show gb_J Γ M_X11_init _ _ _ _ (pre ++ [.inr (11, [0, 0, (c + 1) + 3, (c + 2) + 3, (c + 3) + 3, (c + 4) + 3, (c + 5) + 3, (c + 6) + 3, 0, (c + 7) + 3, (c + 8) + 3, 0, (c + 9) + 3, 0, 0, 0, 0, 1, 0, 0, 0, 0, (c + 10) + 3, 0, (c + 11) + 3, (c + 12) + 3, 0, (c + 13) + 3, (c + 14) + 3, 0, 0, (c + 15) + 3, (c + 16) + 3, (c + 17) + 3, 0, (c + 18) + 3, (c + 19) + 3, 2, 0, 1, 1, 1, 1, 2, 2, 2, 2, 2, 2, 0, 0, 0, 0, 1, 2, 0]), .inl (0, 7), .inl (0, 5520), .inl (0, 11040), .inl (2, 2), .inl (0, 486), .inl (0, 16), .inl (0, 432), .inl (0, 16), .inl (0, 400), .inl (0, 96), .inl (0, 400), .inl (0, 400), .inl (0, 400), .inl (0, 400), .inl (1, 9), .inl (1, 7), .inl (1, 4), .inl (1, 13), .inl (1, 13)]) _ _ _ _
  refine gb_aload_n d_X11_init_292 rfl ?_
  refine gb_sipush 400 d_X11_init_293 rfl ?_
  refine gb_newarrP (n := 20) (N := 400) hc rfl rfl (by decide) wa_1 (by decide) (by decide) (by decide) (Nat.le_of_ble_eq_true rfl) (Nat.le_of_ble_eq_true rfl) d_X11_init_296 ?_
  show gb_J Γ M_X11_init _ _ _ _ (pre ++ [.inr (11, [0, 0, (c + 1) + 3, (c + 2) + 3, (c + 3) + 3, (c + 4) + 3, (c + 5) + 3, (c + 6) + 3, 0, (c + 7) + 3, (c + 8) + 3, 0, (c + 9) + 3, 0, 0, 0, 0, 1, 0, 0, 0, 0, (c + 10) + 3, 0, (c + 11) + 3, (c + 12) + 3, 0, (c + 13) + 3, (c + 14) + 3, 0, 0, (c + 15) + 3, (c + 16) + 3, (c + 17) + 3, 0, (c + 18) + 3, (c + 19) + 3, 2, 0, 1, 1, 1, 1, 2, 2, 2, 2, 2, 2, 0, 0, 0, 0, 1, 2, 0]), .inl (0, 7), .inl (0, 5520), .inl (0, 11040), .inl (2, 2), .inl (0, 486), .inl (0, 16), .inl (0, 432), .inl (0, 16), .inl (0, 400), .inl (0, 96), .inl (0, 400), .inl (0, 400), .inl (0, 400), .inl (0, 400), .inl (1, 9), .inl (1, 7), .inl (1, 4), .inl (1, 13), .inl (1, 13), .inl (1, 400)]) _ _ _ _
  generalize hg41 : gb_z g40 (c + 20) = g41
  refine gb_putrP (i := 0) hc rfl f_X11_107 (fun _ => ⟨rfl, rfl⟩) (Nat.le_of_ble_eq_true rfl) (fun _ => rfl) (fun _ => rfl) d_X11_init_298 ?_
  show gb_J Γ M_X11_init _ _ _ _ (pre ++ [.inr (11, [0, 0, (c + 1) + 3, (c + 2) + 3, (c + 3) + 3, (c + 4) + 3, (c + 5) + 3, (c + 6) + 3, 0, (c + 7) + 3, (c + 8) + 3, 0, (c + 9) + 3, 0, 0, 0, 0, 1, 0, 0, 0, 0, (c + 10) + 3, 0, (c + 11) + 3, (c + 12) + 3, 0, (c + 13) + 3, (c + 14) + 3, 0, 0, (c + 15) + 3, (c + 16) + 3, (c + 17) + 3, 0, (c + 18) + 3, (c + 19) + 3, (c + 20) + 3, 0, 1, 1, 1, 1, 2, 2, 2, 2, 2, 2, 0, 0, 0, 0, 1, 2, 0]), .inl (0, 7), .inl (0, 5520), .inl (0, 11040), .inl (2, 2), .inl (0, 486), .inl (0, 16), .inl (0, 432), .inl (0, 16), .inl (0, 400), .inl (0, 96), .inl (0, 400), .inl (0, 400), .inl (0, 400), .inl (0, 400), .inl (1, 9), .inl (1, 7), .inl (1, 4), .inl (1, 13), .inl (1, 13), .inl (1, 400)]) _ _ _ _
  refine gb_aload_n d_X11_init_301 rfl ?_
  refine gb_sipush 900 d_X11_init_302 rfl ?_
  refine gb_newarrP (n := 21) (N := 900) hc rfl rfl (by decide) wa_0 (by decide) (by decide) (by decide) (Nat.le_of_ble_eq_true rfl) (Nat.le_of_ble_eq_true rfl) d_X11_init_305 ?_
  show gb_J Γ M_X11_init _ _ _ _ (pre ++ [.inr (11, [0, 0, (c + 1) + 3, (c + 2) + 3, (c + 3) + 3, (c + 4) + 3, (c + 5) + 3, (c + 6) + 3, 0, (c + 7) + 3, (c + 8) + 3, 0, (c + 9) + 3, 0, 0, 0, 0, 1, 0, 0, 0, 0, (c + 10) + 3, 0, (c + 11) + 3, (c + 12) + 3, 0, (c + 13) + 3, (c + 14) + 3, 0, 0, (c + 15) + 3, (c + 16) + 3, (c + 17) + 3, 0, (c + 18) + 3, (c + 19) + 3, (c + 20) + 3, 0, 1, 1, 1, 1, 2, 2, 2, 2, 2, 2, 0, 0, 0, 0, 1, 2, 0]), .inl (0, 7), .inl (0, 5520), .inl (0, 11040), .inl (2, 2), .inl (0, 486), .inl (0, 16), .inl (0, 432), .inl (0, 16), .inl (0, 400), .inl (0, 96), .inl (0, 400), .inl (0, 400), .inl (0, 400), .inl (0, 400), .inl (1, 9), .inl (1, 7), .inl (1, 4), .inl (1, 13), .inl (1, 13), .inl (1, 400), .inl (0, 900)]) _ _ _ _
  generalize hg42 : gb_z g41 (c + 21) = g42
  refine gb_putrP (i := 0) hc rfl f_X11_110 (fun _ => ⟨rfl, rfl⟩) (Nat.le_of_ble_eq_true rfl) (fun _ => rfl) (fun _ => rfl) d_X11_init_307 ?_
  show gb_J Γ M_X11_init _ _ _ _ (pre ++ [.inr (11, [0, 0, (c + 1) + 3, (c + 2) + 3, (c + 3) + 3, (c + 4) + 3, (c + 5) + 3, (c + 6) + 3, 0, (c + 7) + 3, (c + 8) + 3, 0, (c + 9) + 3, 0, 0, 0, 0, 1, 0, 0, 0, 0, (c + 10) + 3, 0, (c + 11) + 3, (c + 12) + 3, 0, (c + 13) + 3, (c + 14) + 3, 0, 0, (c + 15) + 3, (c + 16) + 3, (c + 17) + 3, 0, (c + 18) + 3, (c + 19) + 3, (c + 20) + 3, 0, 1, 1, 1, 1, (c + 21) + 3, 2, 2, 2, 2, 2, 0, 0, 0, 0, 1, 2, 0]), .inl (0, 7), .inl (0, 5520), .inl (0, 11040), .inl (2, 2), .inl (0, 486), .inl (0, 16), .inl (0, 432), .inl (0, 16), .inl (0, 400), .inl (0, 96), .inl (0, 400), .inl (0, 400), .inl (0, 400), .inl (0, 400), .inl (1, 9), .inl (1, 7), .inl (1, 4), .inl (1, 13), .inl (1, 13), .inl (1, 400), .inl (0, 900)]) _ _ _ _
  refine gb_aload_n d_X11_init_310 rfl ?_
  refine gb_sipush 2048 d_X11_init_311 rfl ?_
  refine gb_newarrP (n := 22) (N := 2048) hc rfl rfl (by decide) wa_0 (by decide) (by decide) (by decide) (Nat.le_of_ble_eq_true rfl) (Nat.le_of_ble_eq_true rfl) d_X11_init_314 ?_
  show gb_J Γ M_X11_init _ _ _ _ (pre ++ [.inr (11, [0, 0, (c + 1) + 3, (c + 2) + 3, (c + 3) + 3, (c + 4) + 3, (c + 5) + 3, (c + 6) + 3, 0, (c + 7) + 3, (c + 8) + 3, 0, (c + 9) + 3, 0, 0, 0, 0, 1, 0, 0, 0, 0, (c + 10) + 3, 0, (c + 11) + 3, (c + 12) + 3, 0, (c + 13) + 3, (c + 14) + 3, 0, 0, (c + 15) + 3, (c + 16) + 3, (c + 17) + 3, 0, (c + 18) + 3, (c + 19) + 3, (c + 20) + 3, 0, 1, 1, 1, 1, (c + 21) + 3, 2, 2, 2, 2, 2, 0, 0, 0, 0, 1, 2, 0]), .inl (0, 7), .inl (0, 5520), .inl (0, 11040), .inl (2, 2), .inl (0, 486), .inl (0, 16), .inl (0, 432), .inl (0, 16), .inl (0, 400), .inl (0, 96), .inl (0, 400), .inl (0, 400), .inl (0, 400), .inl (0, 400), .inl (1, 9), .inl (1, 7), .inl (1, 4), .inl (1, 13), .inl (1, 13), .inl (1, 400), .inl (0, 900), .inl (0, 2048)]) _ _ _ _
  generalize hg43 : gb_z g42 (c + 22) = g43
  refine gb_putrP (i := 0) hc rfl f_X11_113 (fun _ => ⟨rfl, rfl⟩) (Nat.le_of_ble_eq_true rfl) (fun _ => rfl) (fun _ => rfl) d_X11_init_316 ?_
  show gb_J Γ M_X11_init _ _ _ _ (pre ++ [.inr (11, [0, 0, (c + 1) + 3, (c + 2) + 3, (c + 3) + 3, (c + 4) + 3, (c + 5) + 3, (c + 6) + 3, 0, (c + 7) + 3, (c + 8) + 3, 0, (c + 9) + 3, 0, 0, 0, 0, 1, 0, 0, 0, 0, (c + 10) + 3, 0, (c + 11) + 3, (c + 12) + 3, 0, (c + 13) + 3, (c + 14) + 3, 0, 0, (c + 15) + 3, (c + 16) + 3, (c + 17) + 3, 0, (c + 18) + 3, (c + 19) + 3, (c + 20) + 3, 0, 1, 1, 1, 1, (c + 21) + 3, (c + 22) + 3, 2, 2, 2, 2, 0, 0, 0, 0, 1, 2, 0]), .inl (0, 7), .inl (0, 5520), .inl (0, 11040), .inl (2, 2), .inl (0, 486), .inl (0, 16), .inl (0, 432), .inl (0, 16), .inl (0, 400), .inl (0, 96), .inl (0, 400), .inl (0, 400), .inl (0, 400), .inl (0, 400), .inl (1, 9), .inl (1, 7), .inl (1, 4), .inl (1, 13), .inl (1, 13), .inl (1, 400), .inl (0, 900), .inl (0, 2048)]) _ _ _ _
  refine gb_aload_n d_X11_init_319 rfl ?_
  refine gb_bipush 8 d_X11_init_320 rfl ?_
  refine gb_newarrP (n := 23) (N := 8) hc rfl rfl (by decide) wa_0 (by decide) (by decide) (by decide) (Nat.le_of_ble_eq_true rfl) (Nat.le_of_ble_eq_true rfl) d_X11_init_322 ?_
  show gb_J Γ M_X11_init _ _ _ _ (pre ++ [.inr (11, [0, 0, (c + 1) + 3, (c + 2) + 3, (c + 3) + 3, (c + 4) + 3, (c + 5) + 3, (c + 6) + 3, 0, (c + 7) + 3, (c + 8) + 3, 0, (c + 9) + 3, 0, 0, 0, 0, 1, 0, 0, 0, 0, (c + 10) + 3, 0, (c + 11) + 3, (c + 12) + 3, 0, (c + 13) + 3, (c + 14) + 3, 0, 0, (c + 15) + 3, (c + 16) + 3, (c + 17) + 3, 0, (c + 18) + 3, (c + 19) + 3, (c + 20) + 3, 0, 1, 1, 1, 1, (c + 21) + 3, (c + 22) + 3, 2, 2, 2, 2, 0, 0, 0, 0, 1, 2, 0]), .inl (0, 7), .inl (0, 5520), .inl (0, 11040), .inl (2, 2), .inl (0, 486), .inl (0, 16), .inl (0, 432), .inl (0, 16), .inl (0, 400), .inl (0, 96), .inl (0, 400), .inl (0, 400), .inl (0, 400), .inl (0, 400), .inl (1, 9), .inl (1, 7), .inl (1, 4), .inl (1, 13), .inl (1, 13), .inl (1, 400), .inl (0, 900), .inl (0, 2048), .inl (0, 8)]) _ _ _ _
  generalize hg44 : gb_z g43 (c + 23) = g44
  refine gb_putrP (i := 0) hc rfl f_X11_116 (fun _ => ⟨rfl, rfl⟩) (Nat.le_of_ble_eq_true rfl) (fun _ => rfl) (fun _ => rfl) d_X11_init_324 ?_
  show gb_J Γ M_X11_init _ _ _ _ (pre ++ [.inr (11, [0, 0, (c + 1) + 3, (c + 2) + 3, (c + 3) + 3, (c + 4) + 3, (c + 5) + 3, (c + 6) + 3, 0, (c + 7) + 3, (c + 8) + 3, 0, (c + 9) + 3, 0, 0, 0, 0, 1, 0, 0, 0, 0, (c + 10) + 3, 0, (c + 11) + 3, (c + 12) + 3, 0, (c + 13) + 3, (c + 14) + 3, 0, 0, (c + 15) + 3, (c + 16) + 3, (c + 17) + 3, 0, (c + 18) + 3, (c + 19) + 3, (c + 20) + 3, 0, 1, 1, 1, 1, (c + 21) + 3, (c + 22) + 3, (c + 23) + 3, 2, 2, 2, 0, 0, 0, 0, 1, 2, 0]), .inl (0, 7), .inl (0, 5520), .inl (0, 11040), .inl (2, 2), .inl (0, 486), .inl (0, 16), .inl (0, 432), .inl (0, 16), .inl (0, 400), .inl (0, 96), .inl (0, 400), .inl (0, 400), .inl (0, 400), .inl (0, 400), .inl (1, 9), .inl (1, 7), .inl (1, 4), .inl (1, 13), .inl (1, 13), .inl (1, 400), .inl (0, 900), .inl (0, 2048), .inl (0, 8)]) _ _ _ _
  refine gb_aload_n d_X11_init_327 rfl ?_
  refine gb_bipush 14 d_X11_init_328 rfl ?_
  refine gb_newarrP (n := 24) (N := 14) hc rfl rfl (by decide) wa_1 (by decide) (by decide) (by decide) (Nat.le_of_ble_eq_true rfl) (Nat.le_of_ble_eq_true rfl) d_X11_init_330 ?_
  show gb_J Γ M_X11_init _ _ _ _ (pre ++ [.inr (11, [0, 0, (c + 1) + 3, (c + 2) + 3, (c + 3) + 3, (c + 4) + 3, (c + 5) + 3, (c + 6) + 3, 0, (c + 7) + 3, (c + 8) + 3, 0, (c + 9) + 3, 0, 0, 0, 0, 1, 0, 0, 0, 0, (c + 10) + 3, 0, (c + 11) + 3, (c + 12) + 3, 0, (c + 13) + 3, (c + 14) + 3, 0, 0, (c + 15) + 3, (c + 16) + 3, (c + 17) + 3, 0, (c + 18) + 3, (c + 19) + 3, (c + 20) + 3, 0, 1, 1, 1, 1, (c + 21) + 3, (c + 22) + 3, (c + 23) + 3, 2, 2, 2, 0, 0, 0, 0, 1, 2, 0]), .inl (0, 7), .inl (0, 5520), .inl (0, 11040), .inl (2, 2), .inl (0, 486), .inl (0, 16), .inl (0, 432), .inl (0, 16), .inl (0, 400), .inl (0, 96), .inl (0, 400), .inl (0, 400), .inl (0, 400), .inl (0, 400), .inl (1, 9), .inl (1, 7), .inl (1, 4), .inl (1, 13), .inl (1, 13), .inl (1, 400), .inl (0, 900), .inl (0, 2048), .inl (0, 8), .inl (1, 14)]) _ _ _ _
  generalize hg45 : gb_z g44 (c + 24) = g45
  refine gb_putrP (i := 0) hc rfl f_X11_119 (fun _ => ⟨rfl, rfl⟩) (Nat.le_of_ble_eq_true rfl) (fun _ => rfl) (fun _ => rfl) d_X11_init_332 ?_
  show gb_J Γ M_X11_init _ _ _ _ (pre ++ [.inr (11, [0, 0, (c + 1) + 3, (c + 2) + 3, (c + 3) + 3, (c + 4) + 3, (c + 5) + 3, (c + 6) + 3, 0, (c + 7) + 3, (c + 8) + 3, 0, (c + 9) + 3, 0, 0, 0, 0, 1, 0, 0, 0, 0, (c + 10) + 3, 0, (c + 11) + 3, (c + 12) + 3, 0, (c + 13) + 3, (c + 14) + 3, 0, 0, (c + 15) + 3, (c + 16) + 3, (c + 17) + 3, 0, (c + 18) + 3, (c + 19) + 3, (c + 20) + 3, 0, 1, 1, 1, 1, (c + 21) + 3, (c + 22) + 3, (c + 23) + 3, (c + 24) + 3, 2, 2, 0, 0, 0, 0, 1, 2, 0]), .inl (0, 7), .inl (0, 5520), .inl (0, 11040), .inl (2, 2), .inl (0, 486), .inl (0, 16), .inl (0, 432), .inl (0, 16), .inl (0, 400), .inl (0, 96), .inl (0, 400), .inl (0, 400), .inl (0, 400), .inl (0, 400), .inl (1, 9), .inl (1, 7), .inl (1, 4), .inl (1, 13), .inl (1, 13), .inl (1, 400), .inl (0, 900), .inl (0, 2048), .inl (0, 8), .inl (1, 14)]) _ _ _ _
  refine gb_aload_n d_X11_init_335 rfl ?_
  refine gb_iconst 4 d_X11_init_336 rfl ?_
  refine gb_newarrP (n := 25) (N := 4) hc rfl rfl (by decide) wa_1 (by decide) (by decide) (by decide) (Nat.le_of_ble_eq_true rfl) (Nat.le_of_ble_eq_true rfl) d_X11_init_337 ?_
  show gb_J Γ M_X11_init _ _ _ _ (pre ++ [.inr (11, [0, 0, (c + 1) + 3, (c + 2) + 3, (c + 3) + 3, (c + 4) + 3, (c + 5) + 3, (c + 6) + 3, 0, (c + 7) + 3, (c + 8) + 3, 0, (c + 9) + 3, 0, 0, 0, 0, 1, 0, 0, 0, 0, (c + 10) + 3, 0, (c + 11) + 3, (c + 12) + 3, 0, (c + 13) + 3, (c + 14) + 3, 0, 0, (c + 15) + 3, (c + 16) + 3, (c + 17) + 3, 0, (c + 18) + 3, (c + 19) + 3, (c + 20) + 3, 0, 1, 1, 1, 1, (c + 21) + 3, (c + 22) + 3, (c + 23) + 3, (c + 24) + 3, 2, 2, 0, 0, 0, 0, 1, 2, 0]), .inl (0, 7), .inl (0, 5520), .inl (0, 11040), .inl (2, 2), .inl (0, 486), .inl (0, 16), .inl (0, 432), .inl (0, 16), .inl (0, 400), .inl (0, 96), .inl (0, 400), .inl (0, 400), .inl (0, 400), .inl (0, 400), .inl (1, 9), .inl (1, 7), .inl (1, 4), .inl (1, 13), .inl (1, 13), .inl (1, 400), .inl (0, 900), .inl (0, 2048), .inl (0, 8), .inl (1, 14), .inl (1, 4)]) _ _ _ _
  generalize hg46 : gb_z g45 (c + 25) = g46
  refine gb_dup d_X11_init_339 rfl ?_
  refine gb_iconst 0 d_X11_init_340 rfl ?_
  refine gb_ldc2 394347 k_X11_122 d_X11_init_341 ?_
  refine gb_last_ 0 rfl (gb_at (i := 25) hc rfl) (by unfold vp_in; decide) d_X11_init_344 ?_
  generalize hg47 : gb_pj g46 (c + 25) 0 394347 = g47
  refine gb_dup d_X11_init_345 rfl ?_
  refine gb_iconst 1 d_X11_init_346 rfl ?_
  refine gb_ldc2 206276 k_X11_124 d_X11_init_347 ?_
  refine gb_last_ 1 rfl (gb_at (i := 25) hc rfl) (by unfold vp_in; decide) d_X11_init_350 ?_
  generalize hg48 : gb_pj g47 (c + 25) 1 206276 = g48
  refine gb_dup d_X11_init_351 rfl ?_
  refine gb_iconst 2 d_X11_init_352 rfl ?_
  refine gb_ldc2 24290536 k_X11_126 d_X11_init_353 ?_
  refine gb_last_ 2 rfl (gb_at (i := 25) hc rfl) (by unfold vp_in; decide) d_X11_init_356 ?_
  generalize hg49 : gb_pj g48 (c + 25) 2 24290536 = g49
  refine gb_dup d_X11_init_357 rfl ?_
  refine gb_iconst 3 d_X11_init_358 rfl ?_
  refine gb_ldc2 525939 k_X11_128 d_X11_init_359 ?_
  refine gb_last_ 3 rfl (gb_at (i := 25) hc rfl) (by unfold vp_in; decide) d_X11_init_362 ?_
  generalize hg50 : gb_pj g49 (c + 25) 3 525939 = g50
  refine gb_putrP (i := 0) hc rfl f_X11_130 (fun _ => ⟨rfl, rfl⟩) (Nat.le_of_ble_eq_true rfl) (fun _ => rfl) (fun _ => rfl) d_X11_init_363 ?_
  show gb_J Γ M_X11_init _ _ _ _ (pre ++ [.inr (11, [0, 0, (c + 1) + 3, (c + 2) + 3, (c + 3) + 3, (c + 4) + 3, (c + 5) + 3, (c + 6) + 3, 0, (c + 7) + 3, (c + 8) + 3, 0, (c + 9) + 3, 0, 0, 0, 0, 1, 0, 0, 0, 0, (c + 10) + 3, 0, (c + 11) + 3, (c + 12) + 3, 0, (c + 13) + 3, (c + 14) + 3, 0, 0, (c + 15) + 3, (c + 16) + 3, (c + 17) + 3, 0, (c + 18) + 3, (c + 19) + 3, (c + 20) + 3, 0, 1, 1, 1, 1, (c + 21) + 3, (c + 22) + 3, (c + 23) + 3, (c + 24) + 3, (c + 25) + 3, 2, 0, 0, 0, 0, 1, 2, 0]), .inl (0, 7), .inl (0, 5520), .inl (0, 11040), .inl (2, 2), .inl (0, 486), .inl (0, 16), .inl (0, 432), .inl (0, 16), .inl (0, 400), .inl (0, 96), .inl (0, 400), .inl (0, 400), .inl (0, 400), .inl (0, 400), .inl (1, 9), .inl (1, 7), .inl (1, 4), .inl (1, 13), .inl (1, 13), .inl (1, 400), .inl (0, 900), .inl (0, 2048), .inl (0, 8), .inl (1, 14), .inl (1, 4)]) _ _ _ _
  refine gb_aload_n d_X11_init_366 rfl ?_
  refine gb_bipush 96 d_X11_init_367 rfl ?_
  refine gb_newarrP (n := 26) (N := 96) hc rfl rfl (by decide) wa_0 (by decide) (by decide) (by decide) (Nat.le_of_ble_eq_true rfl) (Nat.le_of_ble_eq_true rfl) d_X11_init_369 ?_
  show gb_J Γ M_X11_init _ _ _ _ (pre ++ [.inr (11, [0, 0, (c + 1) + 3, (c + 2) + 3, (c + 3) + 3, (c + 4) + 3, (c + 5) + 3, (c + 6) + 3, 0, (c + 7) + 3, (c + 8) + 3, 0, (c + 9) + 3, 0, 0, 0, 0, 1, 0, 0, 0, 0, (c + 10) + 3, 0, (c + 11) + 3, (c + 12) + 3, 0, (c + 13) + 3, (c + 14) + 3, 0, 0, (c + 15) + 3, (c + 16) + 3, (c + 17) + 3, 0, (c + 18) + 3, (c + 19) + 3, (c + 20) + 3, 0, 1, 1, 1, 1, (c + 21) + 3, (c + 22) + 3, (c + 23) + 3, (c + 24) + 3, (c + 25) + 3, 2, 0, 0, 0, 0, 1, 2, 0]), .inl (0, 7), .inl (0, 5520), .inl (0, 11040), .inl (2, 2), .inl (0, 486), .inl (0, 16), .inl (0, 432), .inl (0, 16), .inl (0, 400), .inl (0, 96), .inl (0, 400), .inl (0, 400), .inl (0, 400), .inl (0, 400), .inl (1, 9), .inl (1, 7), .inl (1, 4), .inl (1, 13), .inl (1, 13), .inl (1, 400), .inl (0, 900), .inl (0, 2048), .inl (0, 8), .inl (1, 14), .inl (1, 4), .inl (0, 96)]) _ _ _ _
  generalize hg51 : gb_z g50 (c + 26) = g51
  refine gb_putrP (i := 0) hc rfl f_X11_133 (fun _ => ⟨rfl, rfl⟩) (Nat.le_of_ble_eq_true rfl) (fun _ => rfl) (fun _ => rfl) d_X11_init_371 ?_
  show gb_J Γ M_X11_init _ _ _ _ (pre ++ [.inr (11, [0, 0, (c + 1) + 3, (c + 2) + 3, (c + 3) + 3, (c + 4) + 3, (c + 5) + 3, (c + 6) + 3, 0, (c + 7) + 3, (c + 8) + 3, 0, (c + 9) + 3, 0, 0, 0, 0, 1, 0, 0, 0, 0, (c + 10) + 3, 0, (c + 11) + 3, (c + 12) + 3, 0, (c + 13) + 3, (c + 14) + 3, 0, 0, (c + 15) + 3, (c + 16) + 3, (c + 17) + 3, 0, (c + 18) + 3, (c + 19) + 3, (c + 20) + 3, 0, 1, 1, 1, 1, (c + 21) + 3, (c + 22) + 3, (c + 23) + 3, (c + 24) + 3, (c + 25) + 3, (c + 26) + 3, 0, 0, 0, 0, 1, 2, 0]), .inl (0, 7), .inl (0, 5520), .inl (0, 11040), .inl (2, 2), .inl (0, 486), .inl (0, 16), .inl (0, 432), .inl (0, 16), .inl (0, 400), .inl (0, 96), .inl (0, 400), .inl (0, 400), .inl (0, 400), .inl (0, 400), .inl (1, 9), .inl (1, 7), .inl (1, 4), .inl (1, 13), .inl (1, 13), .inl (1, 400), .inl (0, 900), .inl (0, 2048), .inl (0, 8), .inl (1, 14), .inl (1, 4), .inl (0, 96)]) _ _ _ _
  refine gb_aload_n d_X11_init_374 rfl ?_
  refine gb_iconst (-1) d_X11_init_375 rfl ?_
  refine gb_puti f_X11_136 (fun _ => ⟨rfl, rfl⟩) (gb_at (i := 0) hc rfl) rfl rfl rfl d_X11_init_376 ?_
  generalize hg52 : gb_pi g51 (c + 0) 51 (-1) = g52
  refine gb_aload_n d_X11_init_379 rfl ?_
  refine gb_bipush 16 d_X11_init_380 rfl ?_
  refine gb_newarrP (n := 27) (N := 16) hc rfl rfl (by decide) wa_0 (by decide) (by decide) (by decide) (Nat.le_of_ble_eq_true rfl) (Nat.le_of_ble_eq_true rfl) d_X11_init_382 ?_
  show gb_J Γ M_X11_init _ _ _ _ (pre ++ [.inr (11, [0, 0, (c + 1) + 3, (c + 2) + 3, (c + 3) + 3, (c + 4) + 3, (c + 5) + 3, (c + 6) + 3, 0, (c + 7) + 3, (c + 8) + 3, 0, (c + 9) + 3, 0, 0, 0, 0, 1, 0, 0, 0, 0, (c + 10) + 3, 0, (c + 11) + 3, (c + 12) + 3, 0, (c + 13) + 3, (c + 14) + 3, 0, 0, (c + 15) + 3, (c + 16) + 3, (c + 17) + 3, 0, (c + 18) + 3, (c + 19) + 3, (c + 20) + 3, 0, 1, 1, 1, 1, (c + 21) + 3, (c + 22) + 3, (c + 23) + 3, (c + 24) + 3, (c + 25) + 3, (c + 26) + 3, 0, 0, 0, 0, 1, 2, 0]), .inl (0, 7), .inl (0, 5520), .inl (0, 11040), .inl (2, 2), .inl (0, 486), .inl (0, 16), .inl (0, 432), .inl (0, 16), .inl (0, 400), .inl (0, 96), .inl (0, 400), .inl (0, 400), .inl (0, 400), .inl (0, 400), .inl (1, 9), .inl (1, 7), .inl (1, 4), .inl (1, 13), .inl (1, 13), .inl (1, 400), .inl (0, 900), .inl (0, 2048), .inl (0, 8), .inl (1, 14), .inl (1, 4), .inl (0, 96), .inl (0, 16)]) _ _ _ _
  generalize hg53 : gb_z g52 (c + 27) = g53
  refine gb_putrP (i := 0) hc rfl f_X11_139 (fun _ => ⟨rfl, rfl⟩) (Nat.le_of_ble_eq_true rfl) (fun _ => rfl) (fun _ => rfl) d_X11_init_384 ?_
  show gb_J Γ M_X11_init _ _ _ _ (pre ++ [.inr (11, [0, 0, (c + 1) + 3, (c + 2) + 3, (c + 3) + 3, (c + 4) + 3, (c + 5) + 3, (c + 6) + 3, 0, (c + 7) + 3, (c + 8) + 3, 0, (c + 9) + 3, 0, 0, 0, 0, 1, 0, 0, 0, 0, (c + 10) + 3, 0, (c + 11) + 3, (c + 12) + 3, 0, (c + 13) + 3, (c + 14) + 3, 0, 0, (c + 15) + 3, (c + 16) + 3, (c + 17) + 3, 0, (c + 18) + 3, (c + 19) + 3, (c + 20) + 3, 0, 1, 1, 1, 1, (c + 21) + 3, (c + 22) + 3, (c + 23) + 3, (c + 24) + 3, (c + 25) + 3, (c + 26) + 3, 0, 0, 0, 0, 1, (c + 27) + 3, 0]), .inl (0, 7), .inl (0, 5520), .inl (0, 11040), .inl (2, 2), .inl (0, 486), .inl (0, 16), .inl (0, 432), .inl (0, 16), .inl (0, 400), .inl (0, 96), .inl (0, 400), .inl (0, 400), .inl (0, 400), .inl (0, 400), .inl (1, 9), .inl (1, 7), .inl (1, 4), .inl (1, 13), .inl (1, 13), .inl (1, 400), .inl (0, 900), .inl (0, 2048), .inl (0, 8), .inl (1, 14), .inl (1, 4), .inl (0, 96), .inl (0, 16)]) _ _ _ _
  refine gb_aload_n d_X11_init_387 rfl ?_
  refine gb_iconst (-1) d_X11_init_388 rfl ?_
  refine gb_puti f_X11_142 (fun _ => ⟨rfl, rfl⟩) (gb_at (i := 0) hc rfl) rfl rfl rfl d_X11_init_389 ?_
  generalize hg54 : gb_pi g53 (c + 0) 55 (-1) = g54
  refine gb_aload_n d_X11_init_392 rfl ?_
  refine gb_getr (r := (c + 2)) f_X11_13 (gb_at (i := 0) hc rfl) rfl d_X11_init_393 ?_
  refine gb_iconst 4 d_X11_init_396 rfl ?_
  refine gb_iconst (-1) d_X11_init_397 rfl ?_
  refine gb_iast_ 4 rfl (gb_at (i := 2) hc rfl) (by unfold vp_in; decide) d_X11_init_398 ?_
  generalize hg55 : gb_pi g54 (c + 2) 4 (-1) = g55
  refine gb_aload_n d_X11_init_399 rfl ?_
  refine gb_getr (r := (c + 2)) f_X11_13 (gb_at (i := 0) hc rfl) rfl d_X11_init_400 ?_
  refine gb_bipush 6 d_X11_init_403 rfl ?_
  refine gb_iconst 3 d_X11_init_405 rfl ?_
  refine gb_iast_ 6 rfl (gb_at (i := 2) hc rfl) (by unfold vp_in; decide) d_X11_init_406 ?_
  generalize hg56 : gb_pi g55 (c + 2) 6 3 = g56
  exact gb_vret d_X11_init_407 rfl ⟨rfl, by subst_vars; rfl, rfl⟩
