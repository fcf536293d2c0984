-- X11_in
noncomputable def f_X11_in (sh : List gb_Sh) (g : gb_G) (x1 : Int64) (x2 : Int64) (x3 : Int64) : Option (gb_G × Int32) := if (lg_cmp x1 x2) < 0 then (some (g, 0)) else (if 0 < (lg_cmp x1 x3) then (some (g, 0)) else (some (g, 1)))
set_option maxRecDepth 100000 in
set_option maxHeartbeats 4000000 in
theorem t_X11_in {Γ : gb_X} {sh : List gb_Sh} {x1 : Int64} {x2 : Int64} {x3 : Int64} {out : gb_G × Int32} (hS : gb_S sh) {g : gb_G} (h : f_X11_in sh g x1 x2 x3 = some out) : gb_C Γ M_X11_in 0 0 0 sh g [.long x1, .long x2, .long x3] (gb_Ri sh out) := by
  refine gb_C.of rfl (Nat.le_of_ble_eq_true rfl) ?_
  refine gb_pick (lv' := [(0, .long x1), (2, .long x2), (4, .long x3)]) [0, 1, 2] rfl ?_
  unfold f_X11_in at h
  refine gb_lload_n d_X11_in_0 rfl ?_
  refine gb_lload_n d_X11_in_1 rfl ?_
  refine gb_lcmp d_X11_in_2 ?_
  refine gb_if_lt 17 d_X11_in_3 (by decide) (fun hc => ?_) (fun hc => ?_)
  · have h := gb_it hc h
    refine gb_iconst 0 d_X11_in_17 rfl ?_
    cases h
    exact gb_zret d_X11_in_18 rfl rfl ⟨rfl, rfl, rfl⟩
  · have h := gb_if hc h
    refine gb_lload_n d_X11_in_6 rfl ?_
    refine gb_lload d_X11_in_7 rfl ?_
    refine gb_lcmp d_X11_in_9 ?_
    refine gb_if_gt 17 d_X11_in_10 (by decide) (fun hc => ?_) (fun hc => ?_)
    · have h := gb_it hc h
      refine gb_iconst 0 d_X11_in_17 rfl ?_
      cases h
      exact gb_zret d_X11_in_18 rfl rfl ⟨rfl, rfl, rfl⟩
    · have h := gb_if hc h
      refine gb_iconst 1 d_X11_in_13 rfl ?_
      refine gb_goto 18 d_X11_in_14 (by decide) ?_
      cases h
      exact gb_zret d_X11_in_18 rfl rfl ⟨rfl, rfl, rfl⟩
-- X11_is
noncomputable def f_X11_is (sh : List gb_Sh) (g : gb_G) (x1 : Int32) (x2 : Int32) : Option (gb_G × Int32) := if ((x1 >>> (x2 &&& 31)) &&& 1) = 1 then (some (g, 1)) else (some (g, 0))
set_option maxRecDepth 100000 in
set_option maxHeartbeats 4000000 in
theorem t_X11_is {Γ : gb_X} {sh : List gb_Sh} {x1 : Int32} {x2 : Int32} {out : gb_G × Int32} (hS : gb_S sh) {g : gb_G} (h : f_X11_is sh g x1 x2 = some out) : gb_C Γ M_X11_is 0 0 0 sh g [.int x1, .int x2] (gb_Ri sh out) := by
  refine gb_C.of rfl (Nat.le_of_ble_eq_true rfl) ?_
  refine gb_pick (lv' := [(0, .int x1), (1, .int x2)]) [0, 1] rfl ?_
  unfold f_X11_is at h
  refine gb_iload_n d_X11_is_0 rfl ?_
  refine gb_iload_n d_X11_is_1 rfl ?_
  refine gb_ishr d_X11_is_2 ?_
  refine gb_iconst 1 d_X11_is_3 rfl ?_
  refine gb_iand d_X11_is_4 ?_
  refine gb_iconst 1 d_X11_is_5 rfl ?_
  refine gb_icmp_ne 13 d_X11_is_6 (by decide) (fun hc => ?_) (fun hc => ?_)
  · have h := gb_if hc h
    refine gb_iconst 0 d_X11_is_13 rfl ?_
    cases h
    exact gb_zret d_X11_is_14 rfl rfl ⟨rfl, rfl, rfl⟩
  · have h := gb_it hc h
    refine gb_iconst 1 d_X11_is_9 rfl ?_
    refine gb_goto 14 d_X11_is_10 (by decide) ?_
    cases h
    exact gb_zret d_X11_is_14 rfl rfl ⟨rfl, rfl, rfl⟩
-- X11_within
noncomputable def f_X11_within (sh : List gb_Sh) (g : gb_G) (x1 : Int64) (x2 : Int32) (x3 : Int32) : Option (gb_G × Int32) := if 0 ≤ (lg_cmp x1 x2.toInt64) then (if (lg_cmp x1 x3.toInt64) ≤ 0 then (some (g, x1.toInt32)) else (some (g, x3))) else (some (g, x2))
set_option maxRecDepth 100000 in
set_option maxHeartbeats 4000000 in
theorem t_X11_within {Γ : gb_X} {sh : List gb_Sh} {x1 : Int64} {x2 : Int32} {x3 : Int32} {out : gb_G × Int32} (hS : gb_S sh) {g : gb_G} (h : f_X11_within sh g x1 x2 x3 = some out) : gb_C Γ M_X11_within 0 0 0 sh g [.long x1, .int x2, .int x3] (gb_Ri sh out) := by
  refine gb_C.of rfl (Nat.le_of_ble_eq_true rfl) ?_
  refine gb_pick (lv' := [(0, .long x1), (2, .int x2), (3, .int x3)]) [0, 1, 2] rfl ?_
  unfold f_X11_within at h
  refine gb_lload_n d_X11_within_0 rfl ?_
  refine gb_iload_n d_X11_within_1 rfl ?_
  refine gb_i2l d_X11_within_2 ?_
  refine gb_lcmp d_X11_within_3 ?_
  refine gb_if_ge 11 d_X11_within_4 (by decide) (fun hc => ?_) (fun hc => ?_)
  · have h := gb_it hc h
    refine gb_lload_n d_X11_within_11 rfl ?_
    refine gb_iload_n d_X11_within_12 rfl ?_
    refine gb_i2l d_X11_within_13 ?_
    refine gb_lcmp d_X11_within_14 ?_
    refine gb_if_le 22 d_X11_within_15 (by decide) (fun hc => ?_) (fun hc => ?_)
    · have h := gb_it hc h
      refine gb_lload_n d_X11_within_22 rfl ?_
      refine gb_l2i d_X11_within_23 ?_
      cases h
      exact gb_iret d_X11_within_24 rfl ⟨rfl, rfl, rfl⟩
    · have h := gb_if hc h
      refine gb_iload_n d_X11_within_18 rfl ?_
      refine gb_goto 24 d_X11_within_19 (by decide) ?_
      cases h
      exact gb_iret d_X11_within_24 rfl ⟨rfl, rfl, rfl⟩
  · have h := gb_if hc h
    refine gb_iload_n d_X11_within_7 rfl ?_
    refine gb_goto 24 d_X11_within_8 (by decide) ?_
    cases h
    exact gb_iret d_X11_within_24 rfl ⟨rfl, rfl, rfl⟩
-- X11_tell
noncomputable def f_X11_tell_10 (sh : List gb_Sh) (g : gb_G) (y1 : Int32) (z0 : Int32) : Option (gb_G × Int32) := gb_let (gb_pi g 77 1 z0) (fun g1 => if 0 ≤ y1 then (some (g1, y1)) else (gb_ck (-y1) 7 (gb_ck (-y1) 7 (gb_let (gb_pi g1 78 ((-y1).toNatClampNeg) ((g1.1 78 ((-y1).toNatClampNeg)) + 1)) (fun g4 => some (g4, y1))))))
noncomputable def f_X11_tell (sh : List gb_Sh) (g : gb_G) (x1 : Int32) : Option (gb_G × Int32) := if 0 ≤ x1 then (f_X11_tell_10 sh g x1 0) else (f_X11_tell_10 sh g x1 x1)
set_option maxRecDepth 100000 in
set_option maxHeartbeats 4000000 in
theorem t_X11_tell_10 {Γ : gb_X} {sh : List gb_Sh} {out : gb_G × Int32} (hS : gb_S sh) : ∀ (g : gb_G) (y1 : Int32) (z0 : Int32), f_X11_tell_10 sh g y1 z0 = some out → gb_J Γ M_X11_tell 0 (gb_Ri sh out) 0 0 sh g 10 [(0, .ref 77), (1, .int y1)] [.int z0, .ref 77] := by
  intro g y1 z0 h
  unfold f_X11_tell_10 at h
  refine gb_puti f_X11_148 (fun h => nomatch h) (hS 77 _ rfl) rfl rfl rfl d_X11_tell_10 ?_
  have h := gb_let_e h
  generalize gb_pi g 77 1 z0 = g1 at h ⊢
  refine gb_iload_n d_X11_tell_13 rfl ?_
  refine gb_if_ge 28 d_X11_tell_14 (by decide) (fun hc => ?_) (fun hc => ?_)
  · have h := gb_it hc h
    refine gb_iload_n d_X11_tell_28 rfl ?_
    cases h
    exact gb_iret d_X11_tell_29 rfl ⟨rfl, rfl, rfl⟩
  · have h := gb_if hc h
    refine gb_aload_n d_X11_tell_17 rfl ?_
    refine gb_getr (r := 78) f_X11_7 (hS 77 _ rfl) rfl d_X11_tell_18 ?_
    refine gb_iload_n d_X11_tell_21 rfl ?_
    refine gb_ineg d_X11_tell_22 ?_
    refine gb_dup2 d_X11_tell_23 rfl rfl ?_
    obtain ⟨hi2, h⟩ := gb_ck_e h
    refine gb_iald_ ((-y1).toNatClampNeg) rfl (hS 78 _ rfl) hi2 d_X11_tell_24 ?_
    refine gb_iconst 1 d_X11_tell_25 rfl ?_
    refine gb_iadd d_X11_tell_26 ?_
    obtain ⟨hi3, h⟩ := gb_ck_e h
    refine gb_iast_ ((-y1).toNatClampNeg) rfl (hS 78 _ rfl) hi3 d_X11_tell_27 ?_
    have h := gb_let_e h
    generalize gb_pi g1 78 ((-y1).toNatClampNeg) ((g1.1 78 ((-y1).toNatClampNeg)) + 1) = g4 at h ⊢
    refine gb_iload_n d_X11_tell_28 rfl ?_
    cases h
    exact gb_iret d_X11_tell_29 rfl ⟨rfl, rfl, rfl⟩
set_option maxRecDepth 100000 in
set_option maxHeartbeats 4000000 in
theorem t_X11_tell {Γ : gb_X} {sh : List gb_Sh} {x1 : Int32} {out : gb_G × Int32} (hS : gb_S sh) {g : gb_G} (h : f_X11_tell sh g x1 = some out) : gb_C Γ M_X11_tell 0 0 0 sh g [.ref 77, .int x1] (gb_Ri sh out) := by
  refine gb_C.of rfl (Nat.le_of_ble_eq_true rfl) ?_
  refine gb_pick (lv' := [(0, .ref 77), (1, .int x1)]) [0, 1] rfl ?_
  unfold f_X11_tell at h
  refine gb_aload_n d_X11_tell_0 rfl ?_
  refine gb_iload_n d_X11_tell_1 rfl ?_
  refine gb_if_ge 9 d_X11_tell_2 (by decide) (fun hc => ?_) (fun hc => ?_)
  · have h := gb_it hc h
    refine gb_iconst 0 d_X11_tell_9 rfl ?_
    exact t_X11_tell_10 hS  _ x1 0 h
  · have h := gb_if hc h
    refine gb_iload_n d_X11_tell_5 rfl ?_
    refine gb_goto 10 d_X11_tell_6 (by decide) ?_
    exact t_X11_tell_10 hS  _ x1 x1 h
-- X11_change
noncomputable def f_X11_change (sh : List gb_Sh) (g : gb_G) (x1 : Int32) (x2 : Int32) : Option (gb_G × Int32) := gb_ck x1 5520 (gb_ck x1 5520 (gb_let (gb_pi g 79 x1.toNatClampNeg x2) (fun g3 => gb_let (gb_pi g3 77 1 0) (fun g4 => some (g4, (g.1 79 x1.toNatClampNeg))))))
set_option maxRecDepth 100000 in
set_option maxHeartbeats 4000000 in
theorem t_X11_change {Γ : gb_X} {sh : List gb_Sh} {x1 : Int32} {x2 : Int32} {out : gb_G × Int32} (hS : gb_S sh) {g : gb_G} (h : f_X11_change sh g x1 x2 = some out) : gb_C Γ M_X11_change 0 0 0 sh g [.ref 77, .int x1, .int x2] (gb_Ri sh out) := by
  refine gb_C.of rfl (Nat.le_of_ble_eq_true rfl) ?_
  refine gb_pick (lv' := [(0, .ref 77), (1, .int x1), (2, .int x2)]) [0, 1, 2] rfl ?_
  unfold f_X11_change at h
  refine gb_aload_n d_X11_change_0 rfl ?_
  refine gb_getr (r := 79) f_X11_13 (hS 77 _ rfl) rfl d_X11_change_1 ?_
  refine gb_iload_n d_X11_change_4 rfl ?_
  obtain ⟨hi1, h⟩ := gb_ck_e h
  refine gb_iald_ x1.toNatClampNeg rfl (hS 79 _ rfl) hi1 d_X11_change_5 ?_
  refine gb_istore_n [(3, .int (g.1 79 x1.toNatClampNeg)), (0, .ref 77), (1, .int x1), (2, .int x2)] d_X11_change_6 (Nat.le_of_ble_eq_true rfl) rfl ?_
  refine gb_aload_n d_X11_change_7 rfl ?_
  refine gb_getr (r := 79) f_X11_13 (hS 77 _ rfl) rfl d_X11_change_8 ?_
  refine gb_iload_n d_X11_change_11 rfl ?_
  refine gb_iload_n d_X11_change_12 rfl ?_
  obtain ⟨hi2, h⟩ := gb_ck_e h
  refine gb_iast_ x1.toNatClampNeg rfl (hS 79 _ rfl) hi2 d_X11_change_13 ?_
  have h := gb_let_e h
  generalize gb_pi g 79 x1.toNatClampNeg x2 = g3 at h ⊢
  refine gb_aload_n d_X11_change_14 rfl ?_
  refine gb_iconst 0 d_X11_change_15 rfl ?_
  refine gb_puti f_X11_148 (fun h => nomatch h) (hS 77 _ rfl) rfl rfl rfl d_X11_change_16 ?_
  have h := gb_let_e h
  generalize gb_pi g3 77 1 0 = g4 at h ⊢
  refine gb_iload_n d_X11_change_19 rfl ?_
  cases h
  exact gb_iret d_X11_change_20 rfl ⟨rfl, rfl, rfl⟩
-- X11_settled
noncomputable def f_X11_settled_13 (sh : List gb_Sh) (g : gb_G) (y1 : Int32) (z0 : Int32) : Option (gb_G × Int32) := gb_let (gb_pi g 77 8 z0) (fun g1 => gb_bd (f_X11_tell sh g1 y1) (fun r2 => some (r2.1, r2.2)))
noncomputable def f_X11_settled (sh : List gb_Sh) (g : gb_G) (x1 : Int32) : Option (gb_G × Int32) := if 0 ≤ x1 then (f_X11_settled_13 sh g x1 0) else (f_X11_settled_13 sh g x1 (g.1 77 8))
set_option maxRecDepth 100000 in
set_option maxHeartbeats 4000000 in
theorem t_X11_settled_13 {Γ : gb_X} {sh : List gb_Sh} {out : gb_G × Int32} (hS : gb_S sh) : ∀ (g : gb_G) (y1 : Int32) (z0 : Int32), f_X11_settled_13 sh g y1 z0 = some out → gb_J Γ M_X11_settled 1 (gb_Ri sh out) 0 0 sh g 13 [(0, .ref 77), (1, .int y1)] [.int z0, .ref 77] := by
  intro g y1 z0 h
  unfold f_X11_settled_13 at h
  refine gb_puti f_X11_151 (fun h => nomatch h) (hS 77 _ rfl) rfl rfl rfl d_X11_settled_13 ?_
  have h := gb_let_e h
  generalize gb_pi g 77 8 z0 = g1 at h ⊢
  refine gb_aload_n d_X11_settled_16 rfl ?_
  refine gb_iload_n d_X11_settled_17 rfl ?_
  obtain ⟨r2, e3, h⟩ := gb_bd_e h
  refine gb_cVi (As := [.int y1]) (rest := []) m_X11_154 (t_X11_tell (Γ := Γ) hS e3) (hS 77 _ rfl) rfl (Nat.le_of_ble_eq_true rfl) rfl rfl (Nat.le_of_ble_eq_true rfl) d_X11_settled_18 ?_
  cases h
  exact gb_iret d_X11_settled_21 rfl ⟨rfl, rfl, rfl⟩
set_option maxRecDepth 100000 in
set_option maxHeartbeats 4000000 in
theorem t_X11_settled {Γ : gb_X} {sh : List gb_Sh} {x1 : Int32} {out : gb_G × Int32} (hS : gb_S sh) {g : gb_G} (h : f_X11_settled sh g x1 = some out) : gb_C Γ M_X11_settled 1 0 0 sh g [.ref 77, .int x1] (gb_Ri sh out) := by
  refine gb_C.of rfl (Nat.le_of_ble_eq_true rfl) ?_
  refine gb_pick (lv' := [(0, .ref 77), (1, .int x1)]) [0, 1] rfl ?_
  unfold f_X11_settled at h
  refine gb_aload_n d_X11_settled_0 rfl ?_
  refine gb_iload_n d_X11_settled_1 rfl ?_
  refine gb_if_ge 12 d_X11_settled_2 (by decide) (fun hc => ?_) (fun hc => ?_)
  · have h := gb_it hc h
    refine gb_iconst 0 d_X11_settled_12 rfl ?_
    exact t_X11_settled_13 hS  _ x1 0 h
  · have h := gb_if hc h
    refine gb_aload_n d_X11_settled_5 rfl ?_
    refine gb_geti f_X11_151 (hS 77 _ rfl) rfl d_X11_settled_6 ?_
    refine gb_goto 13 d_X11_settled_9 (by decide) ?_
    exact t_X11_settled_13 hS  _ x1 (g.1 77 8) h
-- X11_keepAll
noncomputable def f_X11_keepAll_2 (sh : List gb_Sh) : Nat → gb_G → Int32 → Int32 → Option (gb_G)
  | 0, _, _, _ => none
  | n + 1, g, y1, y2 => if 27 ≤ y2 then (some g) else (gb_ck (5 + y2) 5520 (gb_ck ((27 * y1) + y2) 486 (gb_let (gb_pi g 82 (((27 * y1) + y2).toNatClampNeg) (g.1 79 ((5 + y2).toNatClampNeg))) (fun g3 => f_X11_keepAll_2 sh n g3 y1 (y2 + 1)))))
noncomputable def f_X11_keepAll (sh : List gb_Sh) (g : gb_G) (x1 : Int32) : Option (gb_G) := f_X11_keepAll_2 sh gb_N g x1 0
set_option maxRecDepth 100000 in
set_option maxHeartbeats 4000000 in
theorem t_X11_keepAll_2 {Γ : gb_X} {sh : List gb_Sh} {out : gb_G} (hS : gb_S sh) : ∀ (n : Nat) (g : gb_G) (y1 : Int32) (y2 : Int32), f_X11_keepAll_2 sh n g y1 y2 = some out → gb_J Γ M_X11_keepAll 0 (gb_Rv sh out) 0 0 sh g 2 [(0, .ref 77), (1, .int y1), (2, .int y2)] [] := by
  intro n
  induction n with
  | zero => intro g y1 y2 h; cases h
  | succ n ih =>
    intro g y1 y2 h
    rw [f_X11_keepAll_2] at h
    refine gb_iload_n d_X11_keepAll_2 rfl ?_
    refine gb_bipush 27 d_X11_keepAll_3 rfl ?_
    refine gb_icmp_ge 33 d_X11_keepAll_5 (by decide) (fun hc => ?_) (fun hc => ?_)
    · have h := gb_it hc h
      cases h
      exact gb_vret d_X11_keepAll_33 rfl ⟨rfl, rfl, rfl⟩
    · have h := gb_if hc h
      refine gb_aload_n d_X11_keepAll_8 rfl ?_
      refine gb_getr (r := 82) f_X11_23 (hS 77 _ rfl) rfl d_X11_keepAll_9 ?_
      refine gb_bipush 27 d_X11_keepAll_12 rfl ?_
      refine gb_iload_n d_X11_keepAll_14 rfl ?_
      refine gb_imul d_X11_keepAll_15 ?_
      refine gb_iload_n d_X11_keepAll_16 rfl ?_
      refine gb_iadd d_X11_keepAll_17 ?_
      refine gb_aload_n d_X11_keepAll_18 rfl ?_
      refine gb_getr (r := 79) f_X11_13 (hS 77 _ rfl) rfl d_X11_keepAll_19 ?_
      refine gb_iconst 5 d_X11_keepAll_22 rfl ?_
      refine gb_iload_n d_X11_keepAll_23 rfl ?_
      refine gb_iadd d_X11_keepAll_24 ?_
      obtain ⟨hi1, h⟩ := gb_ck_e h
      refine gb_iald_ ((5 + y2).toNatClampNeg) rfl (hS 79 _ rfl) hi1 d_X11_keepAll_25 ?_
      obtain ⟨hi2, h⟩ := gb_ck_e h
      refine gb_iast_ (((27 * y1) + y2).toNatClampNeg) rfl (hS 82 _ rfl) hi2 d_X11_keepAll_26 ?_
      have h := gb_let_e h
      generalize gb_pi g 82 (((27 * y1) + y2).toNatClampNeg) (g.1 79 ((5 + y2).toNatClampNeg)) = g3 at h ⊢
      refine gb_iinc (y2 + 1) [(2, .int (y2 + 1)), (0, .ref 77), (1, .int y1)] d_X11_keepAll_27 (Nat.le_of_ble_eq_true rfl) rfl rfl rfl ?_
      refine gb_goto 2 d_X11_keepAll_30 (by decide) ?_
      refine gb_pick (lv' := [(0, .ref 77), (1, .int y1), (2, .int (y2 + 1))]) [1, 2, 0] rfl ?_
      exact ih _ y1 (y2 + 1) h
set_option maxRecDepth 100000 in
set_option maxHeartbeats 4000000 in
theorem t_X11_keepAll {Γ : gb_X} {sh : List gb_Sh} {x1 : Int32} {out : gb_G} (hS : gb_S sh) {g : gb_G} (h : f_X11_keepAll sh g x1 = some out) : gb_C Γ M_X11_keepAll 0 0 0 sh g [.ref 77, .int x1] (gb_Rv sh out) := by
  refine gb_C.of rfl (Nat.le_of_ble_eq_true rfl) ?_
  refine gb_pick (lv' := [(0, .ref 77), (1, .int x1)]) [0, 1] rfl ?_
  unfold f_X11_keepAll at h
  refine gb_iconst 0 d_X11_keepAll_0 rfl ?_
  refine gb_istore_n [(2, .int 0), (0, .ref 77), (1, .int x1)] d_X11_keepAll_1 (Nat.le_of_ble_eq_true rfl) rfl ?_
  refine gb_pick (lv' := [(0, .ref 77), (1, .int x1), (2, .int 0)]) [1, 2, 0] rfl ?_
  exact t_X11_keepAll_2 hS  gb_N _ x1 0 h
-- X11_putBack
noncomputable def f_X11_putBack_2 (sh : List gb_Sh) : Nat → gb_G → Int32 → Int32 → Option (gb_G)
  | 0, _, _, _ => none
  | n + 1, g, y1, y2 => if 27 ≤ y2 then (some g) else (gb_ck ((27 * y1) + y2) 486 (gb_ck (5 + y2) 5520 (gb_let (gb_pi g 79 ((5 + y2).toNatClampNeg) (g.1 82 (((27 * y1) + y2).toNatClampNeg))) (fun g3 => f_X11_putBack_2 sh n g3 y1 (y2 + 1)))))
noncomputable def f_X11_putBack (sh : List gb_Sh) (g : gb_G) (x1 : Int32) : Option (gb_G) := f_X11_putBack_2 sh gb_N g x1 0
set_option maxRecDepth 100000 in
set_option maxHeartbeats 4000000 in
theorem t_X11_putBack_2 {Γ : gb_X} {sh : List gb_Sh} {out : gb_G} (hS : gb_S sh) : ∀ (n : Nat) (g : gb_G) (y1 : Int32) (y2 : Int32), f_X11_putBack_2 sh n g y1 y2 = some out → gb_J Γ M_X11_putBack 0 (gb_Rv sh out) 0 0 sh g 2 [(0, .ref 77), (1, .int y1), (2, .int y2)] [] := by
  intro n
  induction n with
  | zero => intro g y1 y2 h; cases h
  | succ n ih =>
    intro g y1 y2 h
    rw [f_X11_putBack_2] at h
    refine gb_iload_n d_X11_putBack_2 rfl ?_
    refine gb_bipush 27 d_X11_putBack_3 rfl ?_
    refine gb_icmp_ge 33 d_X11_putBack_5 (by decide) (fun hc => ?_) (fun hc => ?_)
    · have h := gb_it hc h
      cases h
      exact gb_vret d_X11_putBack_33 rfl ⟨rfl, rfl, rfl⟩
    · have h := gb_if hc h
      refine gb_aload_n d_X11_putBack_8 rfl ?_
      refine gb_getr (r := 79) f_X11_13 (hS 77 _ rfl) rfl d_X11_putBack_9 ?_
      refine gb_iconst 5 d_X11_putBack_12 rfl ?_
      refine gb_iload_n d_X11_putBack_13 rfl ?_
      refine gb_iadd d_X11_putBack_14 ?_
      refine gb_aload_n d_X11_putBack_15 rfl ?_
      refine gb_getr (r := 82) f_X11_23 (hS 77 _ rfl) rfl d_X11_putBack_16 ?_
      refine gb_bipush 27 d_X11_putBack_19 rfl ?_
      refine gb_iload_n d_X11_putBack_21 rfl ?_
      refine gb_imul d_X11_putBack_22 ?_
      refine gb_iload_n d_X11_putBack_23 rfl ?_
      refine gb_iadd d_X11_putBack_24 ?_
      obtain ⟨hi1, h⟩ := gb_ck_e h
      refine gb_iald_ (((27 * y1) + y2).toNatClampNeg) rfl (hS 82 _ rfl) hi1 d_X11_putBack_25 ?_
      obtain ⟨hi2, h⟩ := gb_ck_e h
      refine gb_iast_ ((5 + y2).toNatClampNeg) rfl (hS 79 _ rfl) hi2 d_X11_putBack_26 ?_
      have h := gb_let_e h
      generalize gb_pi g 79 ((5 + y2).toNatClampNeg) (g.1 82 (((27 * y1) + y2).toNatClampNeg)) = g3 at h ⊢
      refine gb_iinc (y2 + 1) [(2, .int (y2 + 1)), (0, .ref 77), (1, .int y1)] d_X11_putBack_27 (Nat.le_of_ble_eq_true rfl) rfl rfl rfl ?_
      refine gb_goto 2 d_X11_putBack_30 (by decide) ?_
      refine gb_pick (lv' := [(0, .ref 77), (1, .int y1), (2, .int (y2 + 1))]) [1, 2, 0] rfl ?_
      exact ih _ y1 (y2 + 1) h
set_option maxRecDepth 100000 in
set_option maxHeartbeats 4000000 in
theorem t_X11_putBack {Γ : gb_X} {sh : List gb_Sh} {x1 : Int32} {out : gb_G} (hS : gb_S sh) {g : gb_G} (h : f_X11_putBack sh g x1 = some out) : gb_C Γ M_X11_putBack 0 0 0 sh g [.ref 77, .int x1] (gb_Rv sh out) := by
  refine gb_C.of rfl (Nat.le_of_ble_eq_true rfl) ?_
  refine gb_pick (lv' := [(0, .ref 77), (1, .int x1)]) [0, 1] rfl ?_
  unfold f_X11_putBack at h
  refine gb_iconst 0 d_X11_putBack_0 rfl ?_
  refine gb_istore_n [(2, .int 0), (0, .ref 77), (1, .int x1)] d_X11_putBack_1 (Nat.le_of_ble_eq_true rfl) rfl ?_
  refine gb_pick (lv' := [(0, .ref 77), (1, .int x1), (2, .int 0)]) [1, 2, 0] rfl ?_
  exact t_X11_putBack_2 hS  gb_N _ x1 0 h
-- X11_remember
noncomputable def f_X11_remember_77 (sh : List gb_Sh) (g : gb_G) (y1 : Int32) : Option (gb_G) := gb_bd (f_X11_keepAll sh g (g.1 77 8)) (fun r1 => gb_ck (r1.1 77 8) 16 (gb_let (gb_pi r1 83 ((r1.1 77 8).toNatClampNeg) y1) (fun g4 => gb_let (gb_pi g4 77 8 ((g4.1 77 8) + 1)) (fun g5 => some g5))))
noncomputable def f_X11_remember_41 (sh : List gb_Sh) (K77 : gb_G → Int32 → Option (gb_G)) : Nat → gb_G → Int32 → Int32 → Option (gb_G)
  | 0, _, _, _ => none
  | n + 1, g, y1, y2 => if 15 ≤ y2 then (gb_let (gb_pi g 77 8 ((g.1 77 8) - 1)) (fun g6 => K77 g6 y1)) else (gb_ck (y2 + 1) 16 (gb_ck y2 16 (gb_let (gb_pi g 83 y2.toNatClampNeg (g.1 83 ((y2 + 1).toNatClampNeg))) (fun g9 => f_X11_remember_41 sh K77 n g9 y1 (y2 + 1)))))
noncomputable def f_X11_remember_11 (sh : List gb_Sh) (K77 : gb_G → Int32 → Option (gb_G)) : Nat → gb_G → Int32 → Int32 → Option (gb_G)
  | 0, _, _, _ => none
  | n + 1, g, y1, y2 => if 405 ≤ y2 then (f_X11_remember_41 sh K77 gb_N g y1 0) else (gb_ck (y2 + 27) 486 (gb_ck y2 486 (gb_let (gb_pi g 82 y2.toNatClampNeg (g.1 82 ((y2 + 27).toNatClampNeg))) (fun g12 => f_X11_remember_11 sh K77 n g12 y1 (y2 + 1)))))
noncomputable def f_X11_remember (sh : List gb_Sh) (g : gb_G) (x1 : Int32) : Option (gb_G) := if (g.1 77 8) = 16 then (f_X11_remember_11 sh (fun w w0 => f_X11_remember_77 sh w w0) gb_N g x1 0) else (f_X11_remember_77 sh g x1)
set_option maxRecDepth 100000 in
set_option maxHeartbeats 4000000 in
theorem t_X11_remember_77 {Γ : gb_X} {sh : List gb_Sh} {out : gb_G} (hS : gb_S sh) : ∀ (g : gb_G) (y1 : Int32), f_X11_remember_77 sh g y1 = some out → gb_J Γ M_X11_remember 1 (gb_Rv sh out) 0 0 sh g 77 [(0, .ref 77), (1, .int y1)] [] := by
  intro g y1 h
  unfold f_X11_remember_77 at h
  refine gb_aload_n d_X11_remember_77 rfl ?_
  refine gb_aload_n d_X11_remember_78 rfl ?_
  refine gb_geti f_X11_151 (hS 77 _ rfl) rfl d_X11_remember_79 ?_
  obtain ⟨r1, e2, h⟩ := gb_bd_e h
  refine gb_cVv (As := [.int (g.1 77 8)]) (rest := []) m_X11_158 (t_X11_keepAll (Γ := Γ) hS e2) (hS 77 _ rfl) rfl (Nat.le_of_ble_eq_true rfl) rfl rfl (Nat.le_of_ble_eq_true rfl) d_X11_remember_82 ?_
  refine gb_aload_n d_X11_remember_85 rfl ?_
  refine gb_getr (r := 83) f_X11_26 (hS 77 _ rfl) rfl d_X11_remember_86 ?_
  refine gb_aload_n d_X11_remember_89 rfl ?_
  refine gb_geti f_X11_151 (hS 77 _ rfl) rfl d_X11_remember_90 ?_
  refine gb_iload_n d_X11_remember_93 rfl ?_
  obtain ⟨hi3, h⟩ := gb_ck_e h
  refine gb_iast_ ((r1.1 77 8).toNatClampNeg) rfl (hS 83 _ rfl) hi3 d_X11_remember_94 ?_
  have h := gb_let_e h
  generalize gb_pi r1 83 ((r1.1 77 8).toNatClampNeg) y1 = g4 at h ⊢
  refine gb_aload_n d_X11_remember_95 rfl ?_
  refine gb_dup d_X11_remember_96 rfl ?_
  refine gb_geti f_X11_151 (hS 77 _ rfl) rfl d_X11_remember_97 ?_
  refine gb_iconst 1 d_X11_remember_100 rfl ?_
  refine gb_iadd d_X11_remember_101 ?_
  refine gb_puti f_X11_151 (fun h => nomatch h) (hS 77 _ rfl) rfl rfl rfl d_X11_remember_102 ?_
  have h := gb_let_e h
  generalize gb_pi g4 77 8 ((g4.1 77 8) + 1) = g5 at h ⊢
  cases h
  exact gb_vret d_X11_remember_105 rfl ⟨rfl, rfl, rfl⟩
set_option maxRecDepth 100000 in
set_option maxHeartbeats 4000000 in
theorem t_X11_remember_41 {Γ : gb_X} {sh : List gb_Sh} {out : gb_G} (hS : gb_S sh) {K77 : gb_G → Int32 → Option (gb_G)} (hK77 : ∀ (g : gb_G) (y1 : Int32), K77 g y1 = some out → gb_J Γ M_X11_remember 1 (gb_Rv sh out) 0 0 sh g 77 [(0, .ref 77), (1, .int y1)] []) : ∀ (n : Nat) (g : gb_G) (y1 : Int32) (y2 : Int32), f_X11_remember_41 sh K77 n g y1 y2 = some out → gb_J Γ M_X11_remember 1 (gb_Rv sh out) 0 0 sh g 41 [(0, .ref 77), (1, .int y1), (2, .int y2)] [] := by
  intro n
  induction n with
  | zero => intro g y1 y2 h; cases h
  | succ n ih =>
    intro g y1 y2 h
    rw [f_X11_remember_41] at h
    refine gb_iload_n d_X11_remember_41 rfl ?_
    refine gb_bipush 15 d_X11_remember_42 rfl ?_
    refine gb_icmp_ge 67 d_X11_remember_44 (by decide) (fun hc => ?_) (fun hc => ?_)
    · have h := gb_it hc h
      refine gb_aload_n d_X11_remember_67 rfl ?_
      refine gb_dup d_X11_remember_68 rfl ?_
      refine gb_geti f_X11_151 (hS 77 _ rfl) rfl d_X11_remember_69 ?_
      refine gb_iconst 1 d_X11_remember_72 rfl ?_
      refine gb_isub d_X11_remember_73 ?_
      refine gb_puti f_X11_151 (fun h => nomatch h) (hS 77 _ rfl) rfl rfl rfl d_X11_remember_74 ?_
      have h := gb_let_e h
      generalize gb_pi g 77 8 ((g.1 77 8) - 1) = g6 at h ⊢
      refine gb_pick (lv' := [(0, .ref 77), (1, .int y1)]) [0, 1] rfl ?_
      exact hK77 _ y1 h
    · have h := gb_if hc h
      refine gb_aload_n d_X11_remember_47 rfl ?_
      refine gb_getr (r := 83) f_X11_26 (hS 77 _ rfl) rfl d_X11_remember_48 ?_
      refine gb_iload_n d_X11_remember_51 rfl ?_
      refine gb_aload_n d_X11_remember_52 rfl ?_
      refine gb_getr (r := 83) f_X11_26 (hS 77 _ rfl) rfl d_X11_remember_53 ?_
      refine gb_iload_n d_X11_remember_56 rfl ?_
      refine gb_iconst 1 d_X11_remember_57 rfl ?_
      refine gb_iadd d_X11_remember_58 ?_
      obtain ⟨hi7, h⟩ := gb_ck_e h
      refine gb_iald_ ((y2 + 1).toNatClampNeg) rfl (hS 83 _ rfl) hi7 d_X11_remember_59 ?_
      obtain ⟨hi8, h⟩ := gb_ck_e h
      refine gb_iast_ y2.toNatClampNeg rfl (hS 83 _ rfl) hi8 d_X11_remember_60 ?_
      have h := gb_let_e h
      generalize gb_pi g 83 y2.toNatClampNeg (g.1 83 ((y2 + 1).toNatClampNeg)) = g9 at h ⊢
      refine gb_iinc (y2 + 1) [(2, .int (y2 + 1)), (0, .ref 77), (1, .int y1)] d_X11_remember_61 (Nat.le_of_ble_eq_true rfl) rfl rfl rfl ?_
      refine gb_goto 41 d_X11_remember_64 (by decide) ?_
      refine gb_pick (lv' := [(0, .ref 77), (1, .int y1), (2, .int (y2 + 1))]) [1, 2, 0] rfl ?_
      exact ih _ y1 (y2 + 1) h
set_option maxRecDepth 100000 in
set_option maxHeartbeats 4000000 in
theorem t_X11_remember_11 {Γ : gb_X} {sh : List gb_Sh} {out : gb_G} (hS : gb_S sh) {K77 : gb_G → Int32 → Option (gb_G)} (hK77 : ∀ (g : gb_G) (y1 : Int32), K77 g y1 = some out → gb_J Γ M_X11_remember 1 (gb_Rv sh out) 0 0 sh g 77 [(0, .ref 77), (1, .int y1)] []) : ∀ (n : Nat) (g : gb_G) (y1 : Int32) (y2 : Int32), f_X11_remember_11 sh K77 n g y1 y2 = some out → gb_J Γ M_X11_remember 1 (gb_Rv sh out) 0 0 sh g 11 [(0, .ref 77), (1, .int y1), (2, .int y2)] [] := by
  intro n
  induction n with
  | zero => intro g y1 y2 h; cases h
  | succ n ih =>
    intro g y1 y2 h
    rw [f_X11_remember_11] at h
    refine gb_iload_n d_X11_remember_11 rfl ?_
    refine gb_sipush 405 d_X11_remember_12 rfl ?_
    refine gb_icmp_ge 39 d_X11_remember_15 (by decide) (fun hc => ?_) (fun hc => ?_)
    · have h := gb_it hc h
      refine gb_iconst 0 d_X11_remember_39 rfl ?_
      refine gb_istore_n [(2, .int 0), (0, .ref 77), (1, .int y1)] d_X11_remember_40 (Nat.le_of_ble_eq_true rfl) rfl ?_
      refine gb_pick (lv' := [(0, .ref 77), (1, .int y1), (2, .int 0)]) [1, 2, 0] rfl ?_
      exact t_X11_remember_41 hS hK77 gb_N _ y1 0 h
    · have h := gb_if hc h
      refine gb_aload_n d_X11_remember_18 rfl ?_
      refine gb_getr (r := 82) f_X11_23 (hS 77 _ rfl) rfl d_X11_remember_19 ?_
      refine gb_iload_n d_X11_remember_22 rfl ?_
      refine gb_aload_n d_X11_remember_23 rfl ?_
      refine gb_getr (r := 82) f_X11_23 (hS 77 _ rfl) rfl d_X11_remember_24 ?_
      refine gb_iload_n d_X11_remember_27 rfl ?_
      refine gb_bipush 27 d_X11_remember_28 rfl ?_
      refine gb_iadd d_X11_remember_30 ?_
      obtain ⟨hi10, h⟩ := gb_ck_e h
      refine gb_iald_ ((y2 + 27).toNatClampNeg) rfl (hS 82 _ rfl) hi10 d_X11_remember_31 ?_
      obtain ⟨hi11, h⟩ := gb_ck_e h
      refine gb_iast_ y2.toNatClampNeg rfl (hS 82 _ rfl) hi11 d_X11_remember_32 ?_
      have h := gb_let_e h
      generalize gb_pi g 82 y2.toNatClampNeg (g.1 82 ((y2 + 27).toNatClampNeg)) = g12 at h ⊢
      refine gb_iinc (y2 + 1) [(2, .int (y2 + 1)), (0, .ref 77), (1, .int y1)] d_X11_remember_33 (Nat.le_of_ble_eq_true rfl) rfl rfl rfl ?_
      refine gb_goto 11 d_X11_remember_36 (by decide) ?_
      refine gb_pick (lv' := [(0, .ref 77), (1, .int y1), (2, .int (y2 + 1))]) [1, 2, 0] rfl ?_
      exact ih _ y1 (y2 + 1) h
set_option maxRecDepth 100000 in
set_option maxHeartbeats 4000000 in
theorem t_X11_remember {Γ : gb_X} {sh : List gb_Sh} {x1 : Int32} {out : gb_G} (hS : gb_S sh) {g : gb_G} (h : f_X11_remember sh g x1 = some out) : gb_C Γ M_X11_remember 1 0 0 sh g [.ref 77, .int x1] (gb_Rv sh out) := by
  refine gb_C.of rfl (Nat.le_of_ble_eq_true rfl) ?_
  refine gb_pick (lv' := [(0, .ref 77), (1, .int x1)]) [0, 1] rfl ?_
  unfold f_X11_remember at h
  refine gb_aload_n d_X11_remember_0 rfl ?_
  refine gb_geti f_X11_151 (hS 77 _ rfl) rfl d_X11_remember_1 ?_
  refine gb_bipush 16 d_X11_remember_4 rfl ?_
  refine gb_icmp_ne 77 d_X11_remember_6 (by decide) (fun hc => ?_) (fun hc => ?_)
  · have h := gb_if hc h
    exact t_X11_remember_77 hS  _ x1 h
  · have h := gb_it hc h
    refine gb_iconst 0 d_X11_remember_9 rfl ?_
    refine gb_istore_n [(2, .int 0), (0, .ref 77), (1, .int x1)] d_X11_remember_10 (Nat.le_of_ble_eq_true rfl) rfl ?_
    refine gb_pick (lv' := [(0, .ref 77), (1, .int x1), (2, .int 0)]) [1, 2, 0] rfl ?_
    exact t_X11_remember_11 hS (fun w w0 hw => t_X11_remember_77 hS  w w0 hw) gb_N _ x1 0 h
-- X11_undo
noncomputable def f_X11_undo (sh : List gb_Sh) (g : gb_G) : Option (gb_G × Int32) := gb_let (gb_pi g 77 0 0) (fun g1 => if (g1.1 77 8) = 0 then (gb_bd (f_X11_tell sh g1 (-3)) (fun r8 => some (r8.1, r8.2))) else (gb_let (gb_pi g1 77 8 ((g1.1 77 8) - 1)) (fun g2 => gb_bd (f_X11_putBack sh g2 (g2.1 77 8)) (fun r3 => gb_ck (r3.1 77 8) 16 (gb_bd (f_X11_tell sh r3 (r3.1 83 ((r3.1 77 8).toNatClampNeg))) (fun r6 => some (r6.1, r6.2)))))))
set_option maxRecDepth 100000 in
set_option maxHeartbeats 4000000 in
theorem t_X11_undo {Γ : gb_X} {sh : List gb_Sh} {out : gb_G × Int32} (hS : gb_S sh) {g : gb_G} (h : f_X11_undo sh g = some out) : gb_C Γ M_X11_undo 1 0 0 sh g [.ref 77] (gb_Ri sh out) := by
  refine gb_C.of rfl (Nat.le_of_ble_eq_true rfl) ?_
  refine gb_pick (lv' := [(0, .ref 77)]) [0] rfl ?_
  unfold f_X11_undo at h
  refine gb_aload_n d_X11_undo_0 rfl ?_
  refine gb_iconst 0 d_X11_undo_1 rfl ?_
  refine gb_puti f_X11_145 (fun h => nomatch h) (hS 77 _ rfl) rfl rfl rfl d_X11_undo_2 ?_
  have h := gb_let_e h
  generalize gb_pi g 77 0 0 = g1 at h ⊢
  refine gb_aload_n d_X11_undo_5 rfl ?_
  refine gb_geti f_X11_151 (hS 77 _ rfl) rfl d_X11_undo_6 ?_
  refine gb_if_ne 19 d_X11_undo_9 (by decide) (fun hc => ?_) (fun hc => ?_)
  · have h := gb_if hc h
    refine gb_aload_n d_X11_undo_19 rfl ?_
    refine gb_dup d_X11_undo_20 rfl ?_
    refine gb_geti f_X11_151 (hS 77 _ rfl) rfl d_X11_undo_21 ?_
    refine gb_iconst 1 d_X11_undo_24 rfl ?_
    refine gb_isub d_X11_undo_25 ?_
    refine gb_puti f_X11_151 (fun h => nomatch h) (hS 77 _ rfl) rfl rfl rfl d_X11_undo_26 ?_
    have h := gb_let_e h
    generalize gb_pi g1 77 8 ((g1.1 77 8) - 1) = g2 at h ⊢
    refine gb_aload_n d_X11_undo_29 rfl ?_
    refine gb_aload_n d_X11_undo_30 rfl ?_
    refine gb_geti f_X11_151 (hS 77 _ rfl) rfl d_X11_undo_31 ?_
    obtain ⟨r3, e4, h⟩ := gb_bd_e h
    refine gb_cVv (As := [.int (g2.1 77 8)]) (rest := []) m_X11_162 (t_X11_putBack (Γ := Γ) hS e4) (hS 77 _ rfl) rfl (Nat.le_of_ble_eq_true rfl) rfl rfl (Nat.le_of_ble_eq_true rfl) d_X11_undo_34 ?_
    refine gb_aload_n d_X11_undo_37 rfl ?_
    refine gb_aload_n d_X11_undo_38 rfl ?_
    refine gb_getr (r := 83) f_X11_26 (hS 77 _ rfl) rfl d_X11_undo_39 ?_
    refine gb_aload_n d_X11_undo_42 rfl ?_
    refine gb_geti f_X11_151 (hS 77 _ rfl) rfl d_X11_undo_43 ?_
    obtain ⟨hi5, h⟩ := gb_ck_e h
    refine gb_iald_ ((r3.1 77 8).toNatClampNeg) rfl (hS 83 _ rfl) hi5 d_X11_undo_46 ?_
    obtain ⟨r6, e7, h⟩ := gb_bd_e h
    refine gb_cVi (As := [.int (r3.1 83 ((r3.1 77 8).toNatClampNeg))]) (rest := []) m_X11_154 (t_X11_tell (Γ := Γ) hS e7) (hS 77 _ rfl) rfl (Nat.le_of_ble_eq_true rfl) rfl rfl (Nat.le_of_ble_eq_true rfl) d_X11_undo_47 ?_
    cases h
    exact gb_iret d_X11_undo_50 rfl ⟨rfl, rfl, rfl⟩
  · have h := gb_it hc h
    refine gb_aload_n d_X11_undo_12 rfl ?_
    refine gb_bipush (-3) d_X11_undo_13 rfl ?_
    obtain ⟨r8, e9, h⟩ := gb_bd_e h
    refine gb_cVi (As := [.int (-3)]) (rest := []) m_X11_154 (t_X11_tell (Γ := Γ) hS e9) (hS 77 _ rfl) rfl (Nat.le_of_ble_eq_true rfl) rfl rfl (Nat.le_of_ble_eq_true rfl) d_X11_undo_15 ?_
    cases h
    exact gb_iret d_X11_undo_18 rfl ⟨rfl, rfl, rfl⟩
-- X11_image
noncomputable def f_X11_image_23 (sh : List gb_Sh) : Nat → gb_G → Int32 → Int32 → Option (gb_G × Int32)
  | 0, _, _, _ => none
  | n + 1, g, y1, y2 => if 5520 ≤ y2 then (gb_ck y1 2 (gb_let (gb_pi g 81 y1.toNatClampNeg 1) (fun g5 => gb_bd (f_X11_tell sh g5 0) (fun r6 => some (r6.1, r6.2))))) else (gb_ck y2 5520 (gb_ck ((5520 * y1) + y2) 11040 (gb_let (gb_pi g 80 (((5520 * y1) + y2).toNatClampNeg) (g.1 79 y2.toNatClampNeg)) (fun g10 => f_X11_image_23 sh n g10 y1 (y2 + 1)))))
noncomputable def f_X11_image (sh : List gb_Sh) (g : gb_G) (x1 : Int32) : Option (gb_G × Int32) := gb_let (gb_pi g 77 0 0) (fun g1 => gb_bd (f_X11_in sh g1 x1.toInt64 0 1) (fun r2 => if r2.2 = 0 then (gb_bd (f_X11_tell sh r2.1 (-1)) (fun r11 => some (r11.1, r11.2))) else (f_X11_image_23 sh gb_N r2.1 x1 0)))
set_option maxRecDepth 100000 in
set_option maxHeartbeats 4000000 in
theorem t_X11_image_23 {Γ : gb_X} {sh : List gb_Sh} {out : gb_G × Int32} (hS : gb_S sh) : ∀ (n : Nat) (g : gb_G) (y1 : Int32) (y2 : Int32), f_X11_image_23 sh n g y1 y2 = some out → gb_J Γ M_X11_image 1 (gb_Ri sh out) 0 0 sh g 23 [(0, .ref 77), (1, .int y1), (2, .int y2)] [] := by
  intro n
  induction n with
  | zero => intro g y1 y2 h; cases h
  | succ n ih =>
    intro g y1 y2 h
    rw [f_X11_image_23] at h
    refine gb_iload_n d_X11_image_23 rfl ?_
    refine gb_sipush 5520 d_X11_image_24 rfl ?_
    refine gb_icmp_ge 54 d_X11_image_27 (by decide) (fun hc => ?_) (fun hc => ?_)
    · have h := gb_it hc h
      refine gb_aload_n d_X11_image_54 rfl ?_
      refine gb_getr (r := 81) f_X11_19 (hS 77 _ rfl) rfl d_X11_image_55 ?_
      refine gb_iload_n d_X11_image_58 rfl ?_
      refine gb_iconst 1 d_X11_image_59 rfl ?_
      obtain ⟨hi4, h⟩ := gb_ck_e h
      refine gb_zast_ y1.toNatClampNeg rfl (hS 81 _ rfl) hi4 rfl d_X11_image_60 ?_
      have h := gb_let_e h
      generalize gb_pi g 81 y1.toNatClampNeg 1 = g5 at h ⊢
      refine gb_aload_n d_X11_image_61 rfl ?_
      refine gb_iconst 0 d_X11_image_62 rfl ?_
      obtain ⟨r6, e7, h⟩ := gb_bd_e h
      refine gb_cVi (As := [.int 0]) (rest := []) m_X11_154 (t_X11_tell (Γ := Γ) hS e7) (hS 77 _ rfl) rfl (Nat.le_of_ble_eq_true rfl) rfl rfl (Nat.le_of_ble_eq_true rfl) d_X11_image_63 ?_
      cases h
      exact gb_iret d_X11_image_66 rfl ⟨rfl, rfl, rfl⟩
    · have h := gb_if hc h
      refine gb_aload_n d_X11_image_30 rfl ?_
      refine gb_getr (r := 80) f_X11_16 (hS 77 _ rfl) rfl d_X11_image_31 ?_
      refine gb_sipush 5520 d_X11_image_34 rfl ?_
      refine gb_iload_n d_X11_image_37 rfl ?_
      refine gb_imul d_X11_image_38 ?_
      refine gb_iload_n d_X11_image_39 rfl ?_
      refine gb_iadd d_X11_image_40 ?_
      refine gb_aload_n d_X11_image_41 rfl ?_
      refine gb_getr (r := 79) f_X11_13 (hS 77 _ rfl) rfl d_X11_image_42 ?_
      refine gb_iload_n d_X11_image_45 rfl ?_
      obtain ⟨hi8, h⟩ := gb_ck_e h
      refine gb_iald_ y2.toNatClampNeg rfl (hS 79 _ rfl) hi8 d_X11_image_46 ?_
      obtain ⟨hi9, h⟩ := gb_ck_e h
      refine gb_iast_ (((5520 * y1) + y2).toNatClampNeg) rfl (hS 80 _ rfl) hi9 d_X11_image_47 ?_
      have h := gb_let_e h
      generalize gb_pi g 80 (((5520 * y1) + y2).toNatClampNeg) (g.1 79 y2.toNatClampNeg) = g10 at h ⊢
      refine gb_iinc (y2 + 1) [(2, .int (y2 + 1)), (0, .ref 77), (1, .int y1)] d_X11_image_48 (Nat.le_of_ble_eq_true rfl) rfl rfl rfl ?_
      refine gb_goto 23 d_X11_image_51 (by decide) ?_
      refine gb_pick (lv' := [(0, .ref 77), (1, .int y1), (2, .int (y2 + 1))]) [1, 2, 0] rfl ?_
      exact ih _ y1 (y2 + 1) h
set_option maxRecDepth 100000 in
set_option maxHeartbeats 4000000 in
theorem t_X11_image {Γ : gb_X} {sh : List gb_Sh} {x1 : Int32} {out : gb_G × Int32} (hS : gb_S sh) {g : gb_G} (h : f_X11_image sh g x1 = some out) : gb_C Γ M_X11_image 1 0 0 sh g [.ref 77, .int x1] (gb_Ri sh out) := by
  refine gb_C.of rfl (Nat.le_of_ble_eq_true rfl) ?_
  refine gb_pick (lv' := [(0, .ref 77), (1, .int x1)]) [0, 1] rfl ?_
  unfold f_X11_image at h
  refine gb_aload_n d_X11_image_0 rfl ?_
  refine gb_iconst 0 d_X11_image_1 rfl ?_
  refine gb_puti f_X11_145 (fun h => nomatch h) (hS 77 _ rfl) rfl rfl rfl d_X11_image_2 ?_
  have h := gb_let_e h
  generalize gb_pi g 77 0 0 = g1 at h ⊢
  refine gb_iload_n d_X11_image_5 rfl ?_
  refine gb_i2l d_X11_image_6 ?_
  refine gb_lconst 0 d_X11_image_7 rfl ?_
  refine gb_lconst 1 d_X11_image_8 rfl ?_
  obtain ⟨r2, e3, h⟩ := gb_bd_e h
  refine gb_cSi (As := [.long x1.toInt64, .long 0, .long 1]) (rest := []) m_X11_165 (t_X11_in (Γ := Γ) hS e3) (Nat.le_of_ble_eq_true rfl) rfl rfl (Nat.le_of_ble_eq_true rfl) d_X11_image_9 ?_
  refine gb_if_ne 21 d_X11_image_12 (by decide) (fun hc => ?_) (fun hc => ?_)
  · have h := gb_if hc h
    refine gb_iconst 0 d_X11_image_21 rfl ?_
    refine gb_istore_n [(2, .int 0), (0, .ref 77), (1, .int x1)] d_X11_image_22 (Nat.le_of_ble_eq_true rfl) rfl ?_
    refine gb_pick (lv' := [(0, .ref 77), (1, .int x1), (2, .int 0)]) [1, 2, 0] rfl ?_
    exact t_X11_image_23 hS  gb_N _ x1 0 h
  · have h := gb_it hc h
    refine gb_aload_n d_X11_image_15 rfl ?_
    refine gb_iconst (-1) d_X11_image_16 rfl ?_
    obtain ⟨r11, e12, h⟩ := gb_bd_e h
    refine gb_cVi (As := [.int (-1)]) (rest := []) m_X11_154 (t_X11_tell (Γ := Γ) hS e12) (hS 77 _ rfl) rfl (Nat.le_of_ble_eq_true rfl) rfl rfl (Nat.le_of_ble_eq_true rfl) d_X11_image_17 ?_
    cases h
    exact gb_iret d_X11_image_20 rfl ⟨rfl, rfl, rfl⟩
-- X11_back
noncomputable def f_X11_back_39 (sh : List gb_Sh) : Nat → gb_G → Int32 → Int32 → Option (gb_G × Int32)
  | 0, _, _, _ => none
  | n + 1, g, y1, y2 => if 5520 ≤ y2 then (gb_bd (f_X11_settled sh g 0) (fun r5 => some (r5.1, r5.2))) else (gb_ck ((5520 * y1) + y2) 11040 (gb_ck y2 5520 (gb_let (gb_pi g 79 y2.toNatClampNeg (g.1 80 (((5520 * y1) + y2).toNatClampNeg))) (fun g9 => f_X11_back_39 sh n g9 y1 (y2 + 1)))))
noncomputable def f_X11_back (sh : List gb_Sh) (g : gb_G) (x1 : Int32) : Option (gb_G × Int32) := gb_let (gb_pi g 77 0 0) (fun g1 => gb_bd (f_X11_in sh g1 x1.toInt64 0 1) (fun r2 => if r2.2 = 0 then (gb_bd (f_X11_tell sh r2.1 (-1)) (fun r12 => some (r12.1, r12.2))) else (gb_ck x1 2 (if (r2.1.1 81 x1.toNatClampNeg) = 0 then (gb_bd (f_X11_tell sh r2.1 (-2)) (fun r10 => some (r10.1, r10.2))) else (f_X11_back_39 sh gb_N r2.1 x1 0)))))
set_option maxRecDepth 100000 in
set_option maxHeartbeats 4000000 in
theorem t_X11_back_39 {Γ : gb_X} {sh : List gb_Sh} {out : gb_G × Int32} (hS : gb_S sh) : ∀ (n : Nat) (g : gb_G) (y1 : Int32) (y2 : Int32), f_X11_back_39 sh n g y1 y2 = some out → gb_J Γ M_X11_back 2 (gb_Ri sh out) 0 0 sh g 39 [(0, .ref 77), (1, .int y1), (2, .int y2)] [] := by
  intro n
  induction n with
  | zero => intro g y1 y2 h; cases h
  | succ n ih =>
    intro g y1 y2 h
    rw [f_X11_back_39] at h
    refine gb_iload_n d_X11_back_39 rfl ?_
    refine gb_sipush 5520 d_X11_back_40 rfl ?_
    refine gb_icmp_ge 70 d_X11_back_43 (by decide) (fun hc => ?_) (fun hc => ?_)
    · have h := gb_it hc h
      refine gb_aload_n d_X11_back_70 rfl ?_
      refine gb_iconst 0 d_X11_back_71 rfl ?_
      obtain ⟨r5, e6, h⟩ := gb_bd_e h
      refine gb_cVi (As := [.int 0]) (rest := []) m_X11_169 (t_X11_settled (Γ := Γ) hS e6) (hS 77 _ rfl) rfl (Nat.le_of_ble_eq_true rfl) rfl rfl (Nat.le_of_ble_eq_true rfl) d_X11_back_72 ?_
      cases h
      exact gb_iret d_X11_back_75 rfl ⟨rfl, rfl, rfl⟩
    · have h := gb_if hc h
      refine gb_aload_n d_X11_back_46 rfl ?_
      refine gb_getr (r := 79) f_X11_13 (hS 77 _ rfl) rfl d_X11_back_47 ?_
      refine gb_iload_n d_X11_back_50 rfl ?_
      refine gb_aload_n d_X11_back_51 rfl ?_
      refine gb_getr (r := 80) f_X11_16 (hS 77 _ rfl) rfl d_X11_back_52 ?_
      refine gb_sipush 5520 d_X11_back_55 rfl ?_
      refine gb_iload_n d_X11_back_58 rfl ?_
      refine gb_imul d_X11_back_59 ?_
      refine gb_iload_n d_X11_back_60 rfl ?_
      refine gb_iadd d_X11_back_61 ?_
      obtain ⟨hi7, h⟩ := gb_ck_e h
      refine gb_iald_ (((5520 * y1) + y2).toNatClampNeg) rfl (hS 80 _ rfl) hi7 d_X11_back_62 ?_
      obtain ⟨hi8, h⟩ := gb_ck_e h
      refine gb_iast_ y2.toNatClampNeg rfl (hS 79 _ rfl) hi8 d_X11_back_63 ?_
      have h := gb_let_e h
      generalize gb_pi g 79 y2.toNatClampNeg (g.1 80 (((5520 * y1) + y2).toNatClampNeg)) = g9 at h ⊢
      refine gb_iinc (y2 + 1) [(2, .int (y2 + 1)), (0, .ref 77), (1, .int y1)] d_X11_back_64 (Nat.le_of_ble_eq_true rfl) rfl rfl rfl ?_
      refine gb_goto 39 d_X11_back_67 (by decide) ?_
      refine gb_pick (lv' := [(0, .ref 77), (1, .int y1), (2, .int (y2 + 1))]) [1, 2, 0] rfl ?_
      exact ih _ y1 (y2 + 1) h
set_option maxRecDepth 100000 in
set_option maxHeartbeats 4000000 in
theorem t_X11_back {Γ : gb_X} {sh : List gb_Sh} {x1 : Int32} {out : gb_G × Int32} (hS : gb_S sh) {g : gb_G} (h : f_X11_back sh g x1 = some out) : gb_C Γ M_X11_back 2 0 0 sh g [.ref 77, .int x1] (gb_Ri sh out) := by
  refine gb_C.of rfl (Nat.le_of_ble_eq_true rfl) ?_
  refine gb_pick (lv' := [(0, .ref 77), (1, .int x1)]) [0, 1] rfl ?_
  unfold f_X11_back at h
  refine gb_aload_n d_X11_back_0 rfl ?_
  refine gb_iconst 0 d_X11_back_1 rfl ?_
  refine gb_puti f_X11_145 (fun h => nomatch h) (hS 77 _ rfl) rfl rfl rfl d_X11_back_2 ?_
  have h := gb_let_e h
  generalize gb_pi g 77 0 0 = g1 at h ⊢
  refine gb_iload_n d_X11_back_5 rfl ?_
  refine gb_i2l d_X11_back_6 ?_
  refine gb_lconst 0 d_X11_back_7 rfl ?_
  refine gb_lconst 1 d_X11_back_8 rfl ?_
  obtain ⟨r2, e3, h⟩ := gb_bd_e h
  refine gb_cSi (As := [.long x1.toInt64, .long 0, .long 1]) (rest := []) m_X11_165 (t_X11_in (Γ := Γ) hS e3) (Nat.le_of_ble_eq_true rfl) rfl rfl (Nat.le_of_ble_eq_true rfl) d_X11_back_9 ?_
  refine gb_if_ne 21 d_X11_back_12 (by decide) (fun hc => ?_) (fun hc => ?_)
  · have h := gb_if hc h
    refine gb_aload_n d_X11_back_21 rfl ?_
    refine gb_getr (r := 81) f_X11_19 (hS 77 _ rfl) rfl d_X11_back_22 ?_
    refine gb_iload_n d_X11_back_25 rfl ?_
    obtain ⟨hi4, h⟩ := gb_ck_e h
    refine gb_zald_ x1.toNatClampNeg rfl (hS 81 _ rfl) hi4 d_X11_back_26 ?_
    refine gb_if_ne 37 d_X11_back_27 (by decide) (fun hc => ?_) (fun hc => ?_)
    · have h := gb_if hc h
      refine gb_iconst 0 d_X11_back_37 rfl ?_
      refine gb_istore_n [(2, .int 0), (0, .ref 77), (1, .int x1)] d_X11_back_38 (Nat.le_of_ble_eq_true rfl) rfl ?_
      refine gb_pick (lv' := [(0, .ref 77), (1, .int x1), (2, .int 0)]) [1, 2, 0] rfl ?_
      exact t_X11_back_39 hS  gb_N _ x1 0 h
    · have h := gb_it hc h
      refine gb_aload_n d_X11_back_30 rfl ?_
      refine gb_bipush (-2) d_X11_back_31 rfl ?_
      obtain ⟨r10, e11, h⟩ := gb_bd_e h
      refine gb_cVi (As := [.int (-2)]) (rest := []) m_X11_154 (t_X11_tell (Γ := Γ) hS e11) (hS 77 _ rfl) rfl (Nat.le_of_ble_eq_true rfl) rfl rfl (Nat.le_of_ble_eq_true rfl) d_X11_back_33 ?_
      cases h
      exact gb_iret d_X11_back_36 rfl ⟨rfl, rfl, rfl⟩
  · have h := gb_it hc h
    refine gb_aload_n d_X11_back_15 rfl ?_
    refine gb_iconst (-1) d_X11_back_16 rfl ?_
    obtain ⟨r12, e13, h⟩ := gb_bd_e h
    refine gb_cVi (As := [.int (-1)]) (rest := []) m_X11_154 (t_X11_tell (Γ := Γ) hS e13) (hS 77 _ rfl) rfl (Nat.le_of_ble_eq_true rfl) rfl rfl (Nat.le_of_ble_eq_true rfl) d_X11_back_17 ?_
    cases h
    exact gb_iret d_X11_back_20 rfl ⟨rfl, rfl, rfl⟩
-- X11_isGood
noncomputable def f_X11_isGood (sh : List gb_Sh) (g : gb_G) (x1 : Int32) : Option (gb_G × Int32) := gb_bd (f_X11_in sh g x1.toInt64 0 (((g.1 79 0).toInt64) - 1)) (fun r1 => gb_bo r1.2 (some (r1.1, r1.2)))
set_option maxRecDepth 100000 in
set_option maxHeartbeats 4000000 in
theorem t_X11_isGood {Γ : gb_X} {sh : List gb_Sh} {x1 : Int32} {out : gb_G × Int32} (hS : gb_S sh) {g : gb_G} (h : f_X11_isGood sh g x1 = some out) : gb_C Γ M_X11_isGood 1 0 0 sh g [.ref 77, .int x1] (gb_Ri sh out) := by
  refine gb_C.of rfl (Nat.le_of_ble_eq_true rfl) ?_
  refine gb_pick (lv' := [(0, .ref 77), (1, .int x1)]) [0, 1] rfl ?_
  unfold f_X11_isGood at h
  refine gb_iload_n d_X11_isGood_0 rfl ?_
  refine gb_i2l d_X11_isGood_1 ?_
  refine gb_lconst 0 d_X11_isGood_2 rfl ?_
  refine gb_aload_n d_X11_isGood_3 rfl ?_
  refine gb_getr (r := 79) f_X11_13 (hS 77 _ rfl) rfl d_X11_isGood_4 ?_
  refine gb_iconst 0 d_X11_isGood_7 rfl ?_
  refine gb_iald_ 0 rfl (hS 79 _ rfl) (by unfold vp_in; decide) d_X11_isGood_8 ?_
  refine gb_i2l d_X11_isGood_9 ?_
  refine gb_lconst 1 d_X11_isGood_10 rfl ?_
  refine gb_lsub d_X11_isGood_11 ?_
  obtain ⟨r1, e2, h⟩ := gb_bd_e h
  refine gb_cSi (As := [.long x1.toInt64, .long 0, .long (((g.1 79 0).toInt64) - 1)]) (rest := []) m_X11_165 (t_X11_in (Γ := Γ) hS e2) (Nat.le_of_ble_eq_true rfl) rfl rfl (Nat.le_of_ble_eq_true rfl) d_X11_isGood_12 ?_
  obtain ⟨hb3, h⟩ := gb_bo_e h
  cases h
  exact gb_zret d_X11_isGood_15 rfl hb3 ⟨rfl, rfl, rfl⟩
-- X11_isPerson
noncomputable def f_X11_isPerson (sh : List gb_Sh) (g : gb_G) (x1 : Int32) : Option (gb_G × Int32) := gb_bd (f_X11_in sh g x1.toInt64 0 (((g.1 79 1).toInt64) - 1)) (fun r1 => gb_bo r1.2 (some (r1.1, r1.2)))
set_option maxRecDepth 100000 in
set_option maxHeartbeats 4000000 in
theorem t_X11_isPerson {Γ : gb_X} {sh : List gb_Sh} {x1 : Int32} {out : gb_G × Int32} (hS : gb_S sh) {g : gb_G} (h : f_X11_isPerson sh g x1 = some out) : gb_C Γ M_X11_isPerson 1 0 0 sh g [.ref 77, .int x1] (gb_Ri sh out) := by
  refine gb_C.of rfl (Nat.le_of_ble_eq_true rfl) ?_
  refine gb_pick (lv' := [(0, .ref 77), (1, .int x1)]) [0, 1] rfl ?_
  unfold f_X11_isPerson at h
  refine gb_iload_n d_X11_isPerson_0 rfl ?_
  refine gb_i2l d_X11_isPerson_1 ?_
  refine gb_lconst 0 d_X11_isPerson_2 rfl ?_
  refine gb_aload_n d_X11_isPerson_3 rfl ?_
  refine gb_getr (r := 79) f_X11_13 (hS 77 _ rfl) rfl d_X11_isPerson_4 ?_
  refine gb_iconst 1 d_X11_isPerson_7 rfl ?_
  refine gb_iald_ 1 rfl (hS 79 _ rfl) (by unfold vp_in; decide) d_X11_isPerson_8 ?_
  refine gb_i2l d_X11_isPerson_9 ?_
  refine gb_lconst 1 d_X11_isPerson_10 rfl ?_
  refine gb_lsub d_X11_isPerson_11 ?_
  obtain ⟨r1, e2, h⟩ := gb_bd_e h
  refine gb_cSi (As := [.long x1.toInt64, .long 0, .long (((g.1 79 1).toInt64) - 1)]) (rest := []) m_X11_165 (t_X11_in (Γ := Γ) hS e2) (Nat.le_of_ble_eq_true rfl) rfl rfl (Nat.le_of_ble_eq_true rfl) d_X11_isPerson_12 ?_
  obtain ⟨hb3, h⟩ := gb_bo_e h
  cases h
  exact gb_zret d_X11_isPerson_15 rfl hb3 ⟨rfl, rfl, rfl⟩
-- X11_stepsOf
noncomputable def f_X11_stepsOf_26 (sh : List gb_Sh) (g : gb_G) (y3 : Int32) (z0 : Int32) : Option (gb_G × Int32) := if 0 ≤ y3 then (some (g, (z0 + y3))) else (some (g, (z0 + (-y3))))
noncomputable def f_X11_stepsOf (sh : List gb_Sh) (g : gb_G) (x1 : Int32) (x2 : Int32) : Option (gb_G × Int32) := if 0 ≤ ((gb_rem x1 5) - (gb_rem x2 5)) then (f_X11_stepsOf_26 sh g ((x1 / 5) - (x2 / 5)) ((gb_rem x1 5) - (gb_rem x2 5))) else (f_X11_stepsOf_26 sh g ((x1 / 5) - (x2 / 5)) (-((gb_rem x1 5) - (gb_rem x2 5))))
set_option maxRecDepth 100000 in
set_option maxHeartbeats 4000000 in
theorem t_X11_stepsOf_26 {Γ : gb_X} {sh : List gb_Sh} {out : gb_G × Int32} (hS : gb_S sh) : ∀ (g : gb_G) (y3 : Int32) (z0 : Int32), f_X11_stepsOf_26 sh g y3 z0 = some out → gb_J Γ M_X11_stepsOf 0 (gb_Ri sh out) 0 0 sh g 26 [(3, .int y3)] [.int z0] := by
  intro g y3 z0 h
  unfold f_X11_stepsOf_26 at h
  refine gb_iload_n d_X11_stepsOf_26 rfl ?_
  refine gb_if_ge 35 d_X11_stepsOf_27 (by decide) (fun hc => ?_) (fun hc => ?_)
  · have h := gb_it hc h
    refine gb_iload_n d_X11_stepsOf_35 rfl ?_
    refine gb_iadd d_X11_stepsOf_36 ?_
    cases h
    exact gb_iret d_X11_stepsOf_37 rfl ⟨rfl, rfl, rfl⟩
  · have h := gb_if hc h
    refine gb_iload_n d_X11_stepsOf_30 rfl ?_
    refine gb_ineg d_X11_stepsOf_31 ?_
    refine gb_goto 36 d_X11_stepsOf_32 (by decide) ?_
    refine gb_iadd d_X11_stepsOf_36 ?_
    cases h
    exact gb_iret d_X11_stepsOf_37 rfl ⟨rfl, rfl, rfl⟩
set_option maxRecDepth 100000 in
set_option maxHeartbeats 4000000 in
theorem t_X11_stepsOf {Γ : gb_X} {sh : List gb_Sh} {x1 : Int32} {x2 : Int32} {out : gb_G × Int32} (hS : gb_S sh) {g : gb_G} (h : f_X11_stepsOf sh g x1 x2 = some out) : gb_C Γ M_X11_stepsOf 0 0 0 sh g [.int x1, .int x2] (gb_Ri sh out) := by
  refine gb_C.of rfl (Nat.le_of_ble_eq_true rfl) ?_
  refine gb_pick (lv' := [(0, .int x1), (1, .int x2)]) [0, 1] rfl ?_
  unfold f_X11_stepsOf at h
  refine gb_iload_n d_X11_stepsOf_0 rfl ?_
  refine gb_iconst 5 d_X11_stepsOf_1 rfl ?_
  refine gb_rem_ d_X11_stepsOf_2 (by decide) ?_
  refine gb_iload_n d_X11_stepsOf_3 rfl ?_
  refine gb_iconst 5 d_X11_stepsOf_4 rfl ?_
  refine gb_rem_ d_X11_stepsOf_5 (by decide) ?_
  refine gb_isub d_X11_stepsOf_6 ?_
  refine gb_istore_n [(2, .int ((gb_rem x1 5) - (gb_rem x2 5))), (0, .int x1), (1, .int x2)] d_X11_stepsOf_7 (Nat.le_of_ble_eq_true rfl) rfl ?_
  refine gb_iload_n d_X11_stepsOf_8 rfl ?_
  refine gb_iconst 5 d_X11_stepsOf_9 rfl ?_
  refine gb_idiv d_X11_stepsOf_10 (by decide) ?_
  refine gb_iload_n d_X11_stepsOf_11 rfl ?_
  refine gb_iconst 5 d_X11_stepsOf_12 rfl ?_
  refine gb_idiv d_X11_stepsOf_13 (by decide) ?_
  refine gb_isub d_X11_stepsOf_14 ?_
  refine gb_istore_n [(3, .int ((x1 / 5) - (x2 / 5))), (2, .int ((gb_rem x1 5) - (gb_rem x2 5))), (0, .int x1), (1, .int x2)] d_X11_stepsOf_15 (Nat.le_of_ble_eq_true rfl) rfl ?_
  refine gb_iload_n d_X11_stepsOf_16 rfl ?_
  refine gb_if_ge 25 d_X11_stepsOf_17 (by decide) (fun hc => ?_) (fun hc => ?_)
  · have h := gb_it hc h
    refine gb_iload_n d_X11_stepsOf_25 rfl ?_
    refine gb_pick (lv' := [(3, .int ((x1 / 5) - (x2 / 5)))]) [0] rfl ?_
    exact t_X11_stepsOf_26 hS  _ ((x1 / 5) - (x2 / 5)) ((gb_rem x1 5) - (gb_rem x2 5)) h
  · have h := gb_if hc h
    refine gb_iload_n d_X11_stepsOf_20 rfl ?_
    refine gb_ineg d_X11_stepsOf_21 ?_
    refine gb_goto 26 d_X11_stepsOf_22 (by decide) ?_
    refine gb_pick (lv' := [(3, .int ((x1 / 5) - (x2 / 5)))]) [0] rfl ?_
    exact t_X11_stepsOf_26 hS  _ ((x1 / 5) - (x2 / 5)) (-((gb_rem x1 5) - (gb_rem x2 5))) h
-- X11_lackingOnes
noncomputable def f_X11_lackingOnes_4 (sh : List gb_Sh) : Nat → gb_G → Int32 → Int32 → Option (gb_G × Int32)
  | 0, _, _, _ => none
  | n + 1, g, y1, y2 => if (g.1 79 0) ≤ y2 then (some (g, y1)) else (gb_ck (16 + y2) 5520 (f_X11_lackingOnes_4 sh n g (y1 + (g.1 79 ((16 + y2).toNatClampNeg))) (y2 + 1)))
noncomputable def f_X11_lackingOnes (sh : List gb_Sh) (g : gb_G) : Option (gb_G × Int32) := f_X11_lackingOnes_4 sh gb_N g 0 0
set_option maxRecDepth 100000 in
set_option maxHeartbeats 4000000 in
theorem t_X11_lackingOnes_4 {Γ : gb_X} {sh : List gb_Sh} {out : gb_G × Int32} (hS : gb_S sh) : ∀ (n : Nat) (g : gb_G) (y1 : Int32) (y2 : Int32), f_X11_lackingOnes_4 sh n g y1 y2 = some out → gb_J Γ M_X11_lackingOnes 0 (gb_Ri sh out) 0 0 sh g 4 [(0, .ref 77), (1, .int y1), (2, .int y2)] [] := by
  intro n
  induction n with
  | zero => intro g y1 y2 h; cases h
  | succ n ih =>
    intro g y1 y2 h
    rw [f_X11_lackingOnes_4] at h
    refine gb_iload_n d_X11_lackingOnes_4 rfl ?_
    refine gb_aload_n d_X11_lackingOnes_5 rfl ?_
    refine gb_getr (r := 79) f_X11_13 (hS 77 _ rfl) rfl d_X11_lackingOnes_6 ?_
    refine gb_iconst 0 d_X11_lackingOnes_9 rfl ?_
    refine gb_iald_ 0 rfl (hS 79 _ rfl) (by unfold vp_in; decide) d_X11_lackingOnes_10 ?_
    refine gb_icmp_ge 32 d_X11_lackingOnes_11 (by decide) (fun hc => ?_) (fun hc => ?_)
    · have h := gb_it hc h
      refine gb_iload_n d_X11_lackingOnes_32 rfl ?_
      cases h
      exact gb_iret d_X11_lackingOnes_33 rfl ⟨rfl, rfl, rfl⟩
    · have h := gb_if hc h
      refine gb_iload_n d_X11_lackingOnes_14 rfl ?_
      refine gb_aload_n d_X11_lackingOnes_15 rfl ?_
      refine gb_getr (r := 79) f_X11_13 (hS 77 _ rfl) rfl d_X11_lackingOnes_16 ?_
      refine gb_bipush 16 d_X11_lackingOnes_19 rfl ?_
      refine gb_iload_n d_X11_lackingOnes_21 rfl ?_
      refine gb_iadd d_X11_lackingOnes_22 ?_
      obtain ⟨hi1, h⟩ := gb_ck_e h
      refine gb_iald_ ((16 + y2).toNatClampNeg) rfl (hS 79 _ rfl) hi1 d_X11_lackingOnes_23 ?_
      refine gb_iadd d_X11_lackingOnes_24 ?_
      refine gb_istore_n [(1, .int (y1 + (g.1 79 ((16 + y2).toNatClampNeg)))), (0, .ref 77), (2, .int y2)] d_X11_lackingOnes_25 (Nat.le_of_ble_eq_true rfl) rfl ?_
      refine gb_iinc (y2 + 1) [(2, .int (y2 + 1)), (1, .int (y1 + (g.1 79 ((16 + y2).toNatClampNeg)))), (0, .ref 77)] d_X11_lackingOnes_26 (Nat.le_of_ble_eq_true rfl) rfl rfl rfl ?_
      refine gb_goto 4 d_X11_lackingOnes_29 (by decide) ?_
      refine gb_pick (lv' := [(0, .ref 77), (1, .int (y1 + (g.1 79 ((16 + y2).toNatClampNeg)))), (2, .int (y2 + 1))]) [2, 1, 0] rfl ?_
      exact ih _ (y1 + (g.1 79 ((16 + y2).toNatClampNeg))) (y2 + 1) h
set_option maxRecDepth 100000 in
set_option maxHeartbeats 4000000 in
theorem t_X11_lackingOnes {Γ : gb_X} {sh : List gb_Sh} {out : gb_G × Int32} (hS : gb_S sh) {g : gb_G} (h : f_X11_lackingOnes sh g = some out) : gb_C Γ M_X11_lackingOnes 0 0 0 sh g [.ref 77] (gb_Ri sh out) := by
  refine gb_C.of rfl (Nat.le_of_ble_eq_true rfl) ?_
  refine gb_pick (lv' := [(0, .ref 77)]) [0] rfl ?_
  unfold f_X11_lackingOnes at h
  refine gb_iconst 0 d_X11_lackingOnes_0 rfl ?_
  refine gb_istore_n [(1, .int 0), (0, .ref 77)] d_X11_lackingOnes_1 (Nat.le_of_ble_eq_true rfl) rfl ?_
  refine gb_iconst 0 d_X11_lackingOnes_2 rfl ?_
  refine gb_istore_n [(2, .int 0), (1, .int 0), (0, .ref 77)] d_X11_lackingOnes_3 (Nat.le_of_ble_eq_true rfl) rfl ?_
  refine gb_pick (lv' := [(0, .ref 77), (1, .int 0), (2, .int 0)]) [2, 1, 0] rfl ?_
  exact t_X11_lackingOnes_4 hS  gb_N _ 0 0 h
-- X11_come
noncomputable def f_X11_come_164 (sh : List gb_Sh) : Nat → gb_G → Int32 → Int32 → Option (gb_G × Int32)
  | 0, _, _, _ => none
  | n + 1, g, y6, y7 => if 5 ≤ y7 then (gb_let (gb_pi g 79 0 ((g.1 79 0) + 1)) (fun g25 => some (g25, y6))) else (gb_ck ((64 + (8 * y7)) + y6) 5520 (gb_let (gb_pi g 79 (((64 + (8 * y7)) + y6).toNatClampNeg) 0) (fun g27 => f_X11_come_164 sh n g27 y6 (y7 + 1))))
noncomputable def f_X11_come (sh : List gb_Sh) (g : gb_G) (x1 : Int32) (x2 : Int32) (x3 : Int32) (x4 : Int32) (x5 : Int32) : Option (gb_G × Int32) := gb_bd (f_X11_in sh g x1.toInt64 1 12) (fun r1 => if r1.2 = 0 then (some (r1.1, (-1))) else (gb_bd (f_X11_in sh r1.1 x2.toInt64 1 12) (fun r3 => if r3.2 = 0 then (some (r3.1, (-1))) else (gb_bd (f_X11_in sh r3.1 x3.toInt64 0 99) (fun r5 => if r5.2 = 0 then (some (r5.1, (-1))) else (gb_bd (f_X11_in sh r5.1 x4.toInt64 0 9) (fun r7 => if r7.2 = 0 then (some (r7.1, (-1))) else (gb_bd (f_X11_in sh r7.1 x5.toInt64 0 24) (fun r9 => if r9.2 = 0 then (some (r9.1, (-1))) else (if (r9.1.1 79 0) = 8 then (some (r9.1, (-5))) else (gb_ck (32 + (r9.1.1 79 0)) 5520 (gb_let (gb_pi r9.1 79 ((32 + (r9.1.1 79 0)).toNatClampNeg) x1) (fun g12 => gb_ck (8 + (r9.1.1 79 0)) 5520 (gb_let (gb_pi g12 79 ((8 + (r9.1.1 79 0)).toNatClampNeg) x2) (fun g14 => gb_ck (24 + (r9.1.1 79 0)) 5520 (gb_let (gb_pi g14 79 ((24 + (r9.1.1 79 0)).toNatClampNeg) x3) (fun g16 => gb_ck (40 + (r9.1.1 79 0)) 5520 (gb_let (gb_pi g16 79 ((40 + (r9.1.1 79 0)).toNatClampNeg) x4) (fun g18 => gb_ck (48 + (r9.1.1 79 0)) 5520 (gb_let (gb_pi g18 79 ((48 + (r9.1.1 79 0)).toNatClampNeg) x5) (fun g20 => gb_ck (16 + (r9.1.1 79 0)) 5520 (gb_let (gb_pi g20 79 ((16 + (r9.1.1 79 0)).toNatClampNeg) 0) (fun g22 => gb_ck (56 + (r9.1.1 79 0)) 5520 (gb_let (gb_pi g22 79 ((56 + (r9.1.1 79 0)).toNatClampNeg) (-1)) (fun g24 => f_X11_come_164 sh gb_N g24 (r9.1.1 79 0) 0)))))))))))))))))))))))))
set_option maxRecDepth 100000 in
set_option maxHeartbeats 4000000 in
theorem t_X11_come_164 {Γ : gb_X} {sh : List gb_Sh} {out : gb_G × Int32} (hS : gb_S sh) : ∀ (n : Nat) (g : gb_G) (y6 : Int32) (y7 : Int32), f_X11_come_164 sh n g y6 y7 = some out → gb_J Γ M_X11_come 1 (gb_Ri sh out) 0 0 sh g 164 [(0, .ref 77), (6, .int y6), (7, .int y7)] [] := by
  intro n
  induction n with
  | zero => intro g y6 y7 h; cases h
  | succ n ih =>
    intro g y6 y7 h
    rw [f_X11_come_164] at h
    refine gb_iload d_X11_come_164 rfl ?_
    refine gb_iconst 5 d_X11_come_166 rfl ?_
    refine gb_icmp_ge 193 d_X11_come_167 (by decide) (fun hc => ?_) (fun hc => ?_)
    · have h := gb_it hc h
      refine gb_aload_n d_X11_come_193 rfl ?_
      refine gb_getr (r := 79) f_X11_13 (hS 77 _ rfl) rfl d_X11_come_194 ?_
      refine gb_iconst 0 d_X11_come_197 rfl ?_
      refine gb_dup2 d_X11_come_198 rfl rfl ?_
      refine gb_iald_ 0 rfl (hS 79 _ rfl) (by unfold vp_in; decide) d_X11_come_199 ?_
      refine gb_iconst 1 d_X11_come_200 rfl ?_
      refine gb_iadd d_X11_come_201 ?_
      refine gb_iast_ 0 rfl (hS 79 _ rfl) (by unfold vp_in; decide) d_X11_come_202 ?_
      have h := gb_let_e h
      generalize gb_pi g 79 0 ((g.1 79 0) + 1) = g25 at h ⊢
      refine gb_iload d_X11_come_203 rfl ?_
      cases h
      exact gb_iret d_X11_come_205 rfl ⟨rfl, rfl, rfl⟩
    · have h := gb_if hc h
      refine gb_aload_n d_X11_come_170 rfl ?_
      refine gb_getr (r := 79) f_X11_13 (hS 77 _ rfl) rfl d_X11_come_171 ?_
      refine gb_bipush 64 d_X11_come_174 rfl ?_
      refine gb_bipush 8 d_X11_come_176 rfl ?_
      refine gb_iload d_X11_come_178 rfl ?_
      refine gb_imul d_X11_come_180 ?_
      refine gb_iadd d_X11_come_181 ?_
      refine gb_iload d_X11_come_182 rfl ?_
      refine gb_iadd d_X11_come_184 ?_
      refine gb_iconst 0 d_X11_come_185 rfl ?_
      obtain ⟨hi26, h⟩ := gb_ck_e h
      refine gb_iast_ (((64 + (8 * y7)) + y6).toNatClampNeg) rfl (hS 79 _ rfl) hi26 d_X11_come_186 ?_
      have h := gb_let_e h
      generalize gb_pi g 79 (((64 + (8 * y7)) + y6).toNatClampNeg) 0 = g27 at h ⊢
      refine gb_iinc (y7 + 1) [(7, .int (y7 + 1)), (0, .ref 77), (6, .int y6)] d_X11_come_187 (Nat.le_of_ble_eq_true rfl) rfl rfl rfl ?_
      refine gb_goto 164 d_X11_come_190 (by decide) ?_
      refine gb_pick (lv' := [(0, .ref 77), (6, .int y6), (7, .int (y7 + 1))]) [1, 2, 0] rfl ?_
      exact ih _ y6 (y7 + 1) h
set_option maxRecDepth 100000 in
set_option maxHeartbeats 4000000 in
theorem t_X11_come {Γ : gb_X} {sh : List gb_Sh} {x1 : Int32} {x2 : Int32} {x3 : Int32} {x4 : Int32} {x5 : Int32} {out : gb_G × Int32} (hS : gb_S sh) {g : gb_G} (h : f_X11_come sh g x1 x2 x3 x4 x5 = some out) : gb_C Γ M_X11_come 1 0 0 sh g [.ref 77, .int x1, .int x2, .int x3, .int x4, .int x5] (gb_Ri sh out) := by
  refine gb_C.of rfl (Nat.le_of_ble_eq_true rfl) ?_
  refine gb_pick (lv' := [(0, .ref 77), (1, .int x1), (2, .int x2), (3, .int x3), (4, .int x4), (5, .int x5)]) [0, 1, 2, 3, 4, 5] rfl ?_
  unfold f_X11_come at h
  refine gb_iload_n d_X11_come_0 rfl ?_
  refine gb_i2l d_X11_come_1 ?_
  refine gb_lconst 1 d_X11_come_2 rfl ?_
  refine gb_ldc2 12 k_X11_172 d_X11_come_3 ?_
  obtain ⟨r1, e2, h⟩ := gb_bd_e h
  refine gb_cSi (As := [.long x1.toInt64, .long 1, .long 12]) (rest := []) m_X11_165 (t_X11_in (Γ := Γ) hS e2) (Nat.le_of_ble_eq_true rfl) rfl rfl (Nat.le_of_ble_eq_true rfl) d_X11_come_6 ?_
  refine gb_if_eq 62 d_X11_come_9 (by decide) (fun hc => ?_) (fun hc => ?_)
  · have h := gb_it hc h
    refine gb_iconst (-1) d_X11_come_62 rfl ?_
    cases h
    exact gb_iret d_X11_come_63 rfl ⟨rfl, rfl, rfl⟩
  · have h := gb_if hc h
    refine gb_iload_n d_X11_come_12 rfl ?_
    refine gb_i2l d_X11_come_13 ?_
    refine gb_lconst 1 d_X11_come_14 rfl ?_
    refine gb_ldc2 12 k_X11_172 d_X11_come_15 ?_
    obtain ⟨r3, e4, h⟩ := gb_bd_e h
    refine gb_cSi (As := [.long x2.toInt64, .long 1, .long 12]) (rest := []) m_X11_165 (t_X11_in (Γ := Γ) hS e4) (Nat.le_of_ble_eq_true rfl) rfl rfl (Nat.le_of_ble_eq_true rfl) d_X11_come_18 ?_
    refine gb_if_eq 62 d_X11_come_21 (by decide) (fun hc => ?_) (fun hc => ?_)
    · have h := gb_it hc h
      refine gb_iconst (-1) d_X11_come_62 rfl ?_
      cases h
      exact gb_iret d_X11_come_63 rfl ⟨rfl, rfl, rfl⟩
    · have h := gb_if hc h
      refine gb_iload_n d_X11_come_24 rfl ?_
      refine gb_i2l d_X11_come_25 ?_
      refine gb_lconst 0 d_X11_come_26 rfl ?_
      refine gb_ldc2 99 k_X11_174 d_X11_come_27 ?_
      obtain ⟨r5, e6, h⟩ := gb_bd_e h
      refine gb_cSi (As := [.long x3.toInt64, .long 0, .long 99]) (rest := []) m_X11_165 (t_X11_in (Γ := Γ) hS e6) (Nat.le_of_ble_eq_true rfl) rfl rfl (Nat.le_of_ble_eq_true rfl) d_X11_come_30 ?_
      refine gb_if_eq 62 d_X11_come_33 (by decide) (fun hc => ?_) (fun hc => ?_)
      · have h := gb_it hc h
        refine gb_iconst (-1) d_X11_come_62 rfl ?_
        cases h
        exact gb_iret d_X11_come_63 rfl ⟨rfl, rfl, rfl⟩
      · have h := gb_if hc h
        refine gb_iload d_X11_come_36 rfl ?_
        refine gb_i2l d_X11_come_38 ?_
        refine gb_lconst 0 d_X11_come_39 rfl ?_
        refine gb_ldc2 9 k_X11_176 d_X11_come_40 ?_
        obtain ⟨r7, e8, h⟩ := gb_bd_e h
        refine gb_cSi (As := [.long x4.toInt64, .long 0, .long 9]) (rest := []) m_X11_165 (t_X11_in (Γ := Γ) hS e8) (Nat.le_of_ble_eq_true rfl) rfl rfl (Nat.le_of_ble_eq_true rfl) d_X11_come_43 ?_
        refine gb_if_eq 62 d_X11_come_46 (by decide) (fun hc => ?_) (fun hc => ?_)
        · have h := gb_it hc h
          refine gb_iconst (-1) d_X11_come_62 rfl ?_
          cases h
          exact gb_iret d_X11_come_63 rfl ⟨rfl, rfl, rfl⟩
        · have h := gb_if hc h
          refine gb_iload d_X11_come_49 rfl ?_
          refine gb_i2l d_X11_come_51 ?_
          refine gb_lconst 0 d_X11_come_52 rfl ?_
          refine gb_ldc2 24 k_X11_178 d_X11_come_53 ?_
          obtain ⟨r9, e10, h⟩ := gb_bd_e h
          refine gb_cSi (As := [.long x5.toInt64, .long 0, .long 24]) (rest := []) m_X11_165 (t_X11_in (Γ := Γ) hS e10) (Nat.le_of_ble_eq_true rfl) rfl rfl (Nat.le_of_ble_eq_true rfl) d_X11_come_56 ?_
          refine gb_if_ne 64 d_X11_come_59 (by decide) (fun hc => ?_) (fun hc => ?_)
          · have h := gb_if hc h
            refine gb_aload_n d_X11_come_64 rfl ?_
            refine gb_getr (r := 79) f_X11_13 (hS 77 _ rfl) rfl d_X11_come_65 ?_
            refine gb_iconst 0 d_X11_come_68 rfl ?_
            refine gb_iald_ 0 rfl (hS 79 _ rfl) (by unfold vp_in; decide) d_X11_come_69 ?_
            refine gb_istore [(6, .int (r9.1.1 79 0)), (0, .ref 77), (1, .int x1), (2, .int x2), (3, .int x3), (4, .int x4), (5, .int x5)] d_X11_come_70 (Nat.le_of_ble_eq_true rfl) rfl ?_
            refine gb_iload d_X11_come_72 rfl ?_
            refine gb_bipush 8 d_X11_come_74 rfl ?_
            refine gb_icmp_ne 82 d_X11_come_76 (by decide) (fun hc => ?_) (fun hc => ?_)
            · have h := gb_if hc h
              refine gb_aload_n d_X11_come_82 rfl ?_
              refine gb_getr (r := 79) f_X11_13 (hS 77 _ rfl) rfl d_X11_come_83 ?_
              refine gb_bipush 32 d_X11_come_86 rfl ?_
              refine gb_iload d_X11_come_88 rfl ?_
              refine gb_iadd d_X11_come_90 ?_
              refine gb_iload_n d_X11_come_91 rfl ?_
              obtain ⟨hi11, h⟩ := gb_ck_e h
              refine gb_iast_ ((32 + (r9.1.1 79 0)).toNatClampNeg) rfl (hS 79 _ rfl) hi11 d_X11_come_92 ?_
              have h := gb_let_e h
              generalize gb_pi r9.1 79 ((32 + (r9.1.1 79 0)).toNatClampNeg) x1 = g12 at h ⊢
              refine gb_aload_n d_X11_come_93 rfl ?_
              refine gb_getr (r := 79) f_X11_13 (hS 77 _ rfl) rfl d_X11_come_94 ?_
              refine gb_bipush 8 d_X11_come_97 rfl ?_
              refine gb_iload d_X11_come_99 rfl ?_
              refine gb_iadd d_X11_come_101 ?_
              refine gb_iload_n d_X11_come_102 rfl ?_
              obtain ⟨hi13, h⟩ := gb_ck_e h
              refine gb_iast_ ((8 + (r9.1.1 79 0)).toNatClampNeg) rfl (hS 79 _ rfl) hi13 d_X11_come_103 ?_
              have h := gb_let_e h
              generalize gb_pi g12 79 ((8 + (r9.1.1 79 0)).toNatClampNeg) x2 = g14 at h ⊢
              refine gb_aload_n d_X11_come_104 rfl ?_
              refine gb_getr (r := 79) f_X11_13 (hS 77 _ rfl) rfl d_X11_come_105 ?_
              refine gb_bipush 24 d_X11_come_108 rfl ?_
              refine gb_iload d_X11_come_110 rfl ?_
              refine gb_iadd d_X11_come_112 ?_
              refine gb_iload_n d_X11_come_113 rfl ?_
              obtain ⟨hi15, h⟩ := gb_ck_e h
              refine gb_iast_ ((24 + (r9.1.1 79 0)).toNatClampNeg) rfl (hS 79 _ rfl) hi15 d_X11_come_114 ?_
              have h := gb_let_e h
              generalize gb_pi g14 79 ((24 + (r9.1.1 79 0)).toNatClampNeg) x3 = g16 at h ⊢
              refine gb_aload_n d_X11_come_115 rfl ?_
              refine gb_getr (r := 79) f_X11_13 (hS 77 _ rfl) rfl d_X11_come_116 ?_
              refine gb_bipush 40 d_X11_come_119 rfl ?_
              refine gb_iload d_X11_come_121 rfl ?_
              refine gb_iadd d_X11_come_123 ?_
              refine gb_iload d_X11_come_124 rfl ?_
              obtain ⟨hi17, h⟩ := gb_ck_e h
              refine gb_iast_ ((40 + (r9.1.1 79 0)).toNatClampNeg) rfl (hS 79 _ rfl) hi17 d_X11_come_126 ?_
              have h := gb_let_e h
              generalize gb_pi g16 79 ((40 + (r9.1.1 79 0)).toNatClampNeg) x4 = g18 at h ⊢
              refine gb_aload_n d_X11_come_127 rfl ?_
              refine gb_getr (r := 79) f_X11_13 (hS 77 _ rfl) rfl d_X11_come_128 ?_
              refine gb_bipush 48 d_X11_come_131 rfl ?_
              refine gb_iload d_X11_come_133 rfl ?_
              refine gb_iadd d_X11_come_135 ?_
              refine gb_iload d_X11_come_136 rfl ?_
              obtain ⟨hi19, h⟩ := gb_ck_e h
              refine gb_iast_ ((48 + (r9.1.1 79 0)).toNatClampNeg) rfl (hS 79 _ rfl) hi19 d_X11_come_138 ?_
              have h := gb_let_e h
              generalize gb_pi g18 79 ((48 + (r9.1.1 79 0)).toNatClampNeg) x5 = g20 at h ⊢
              refine gb_aload_n d_X11_come_139 rfl ?_
              refine gb_getr (r := 79) f_X11_13 (hS 77 _ rfl) rfl d_X11_come_140 ?_
              refine gb_bipush 16 d_X11_come_143 rfl ?_
              refine gb_iload d_X11_come_145 rfl ?_
              refine gb_iadd d_X11_come_147 ?_
              refine gb_iconst 0 d_X11_come_148 rfl ?_
              obtain ⟨hi21, h⟩ := gb_ck_e h
              refine gb_iast_ ((16 + (r9.1.1 79 0)).toNatClampNeg) rfl (hS 79 _ rfl) hi21 d_X11_come_149 ?_
              have h := gb_let_e h
              generalize gb_pi g20 79 ((16 + (r9.1.1 79 0)).toNatClampNeg) 0 = g22 at h ⊢
              refine gb_aload_n d_X11_come_150 rfl ?_
              refine gb_getr (r := 79) f_X11_13 (hS 77 _ rfl) rfl d_X11_come_151 ?_
              refine gb_bipush 56 d_X11_come_154 rfl ?_
              refine gb_iload d_X11_come_156 rfl ?_
              refine gb_iadd d_X11_come_158 ?_
              refine gb_iconst (-1) d_X11_come_159 rfl ?_
              obtain ⟨hi23, h⟩ := gb_ck_e h
              refine gb_iast_ ((56 + (r9.1.1 79 0)).toNatClampNeg) rfl (hS 79 _ rfl) hi23 d_X11_come_160 ?_
              have h := gb_let_e h
              generalize gb_pi g22 79 ((56 + (r9.1.1 79 0)).toNatClampNeg) (-1) = g24 at h ⊢
              refine gb_iconst 0 d_X11_come_161 rfl ?_
              refine gb_istore [(7, .int 0), (6, .int (r9.1.1 79 0)), (0, .ref 77), (1, .int x1), (2, .int x2), (3, .int x3), (4, .int x4), (5, .int x5)] d_X11_come_162 (Nat.le_of_ble_eq_true rfl) rfl ?_
              refine gb_pick (lv' := [(0, .ref 77), (6, .int (r9.1.1 79 0)), (7, .int 0)]) [2, 1, 0] rfl ?_
              exact t_X11_come_164 hS  gb_N _ (r9.1.1 79 0) 0 h
            · have h := gb_it hc h
              refine gb_bipush (-5) d_X11_come_79 rfl ?_
              cases h
              exact gb_iret d_X11_come_81 rfl ⟨rfl, rfl, rfl⟩
          · have h := gb_it hc h
            refine gb_iconst (-1) d_X11_come_62 rfl ?_
            cases h
            exact gb_iret d_X11_come_63 rfl ⟨rfl, rfl, rfl⟩
-- X11_good
noncomputable def f_X11_good (sh : List gb_Sh) (g : gb_G) (x1 : Int32) (x2 : Int32) (x3 : Int32) (x4 : Int32) (x5 : Int32) : Option (gb_G × Int32) := gb_let (gb_pi g 77 0 0) (fun g1 => gb_bd (f_X11_come sh g1 x1 x2 x3 x4 x5) (fun r2 => gb_bd (f_X11_settled sh r2.1 r2.2) (fun r4 => some (r4.1, r4.2))))
set_option maxRecDepth 100000 in
set_option maxHeartbeats 4000000 in
theorem t_X11_good {Γ : gb_X} {sh : List gb_Sh} {x1 : Int32} {x2 : Int32} {x3 : Int32} {x4 : Int32} {x5 : Int32} {out : gb_G × Int32} (hS : gb_S sh) {g : gb_G} (h : f_X11_good sh g x1 x2 x3 x4 x5 = some out) : gb_C Γ M_X11_good 2 0 0 sh g [.ref 77, .int x1, .int x2, .int x3, .int x4, .int x5] (gb_Ri sh out) := by
  refine gb_C.of rfl (Nat.le_of_ble_eq_true rfl) ?_
  refine gb_pick (lv' := [(0, .ref 77), (1, .int x1), (2, .int x2), (3, .int x3), (4, .int x4), (5, .int x5)]) [0, 1, 2, 3, 4, 5] rfl ?_
  unfold f_X11_good at h
  refine gb_aload_n d_X11_good_0 rfl ?_
  refine gb_iconst 0 d_X11_good_1 rfl ?_
  refine gb_puti f_X11_145 (fun h => nomatch h) (hS 77 _ rfl) rfl rfl rfl d_X11_good_2 ?_
  have h := gb_let_e h
  generalize gb_pi g 77 0 0 = g1 at h ⊢
  refine gb_aload_n d_X11_good_5 rfl ?_
  refine gb_aload_n d_X11_good_6 rfl ?_
  refine gb_iload_n d_X11_good_7 rfl ?_
  refine gb_iload_n d_X11_good_8 rfl ?_
  refine gb_iload_n d_X11_good_9 rfl ?_
  refine gb_iload d_X11_good_10 rfl ?_
  refine gb_iload d_X11_good_12 rfl ?_
  obtain ⟨r2, e3, h⟩ := gb_bd_e h
  refine gb_cVi (As := [.int x1, .int x2, .int x3, .int x4, .int x5]) (rest := [.ref 77]) m_X11_180 (t_X11_come (Γ := Γ) hS e3) (hS 77 _ rfl) rfl (Nat.le_of_ble_eq_true rfl) rfl rfl (Nat.le_of_ble_eq_true rfl) d_X11_good_14 ?_
  obtain ⟨r4, e5, h⟩ := gb_bd_e h
  refine gb_cVi (As := [.int r2.2]) (rest := []) m_X11_169 (t_X11_settled (Γ := Γ) hS e5) (hS 77 _ rfl) rfl (Nat.le_of_ble_eq_true rfl) rfl rfl (Nat.le_of_ble_eq_true rfl) d_X11_good_17 ?_
  cases h
  exact gb_iret d_X11_good_20 rfl ⟨rfl, rfl, rfl⟩
-- X11_of
noncomputable def f_X11_of (sh : List gb_Sh) (g : gb_G) (x1 : Int32) (x2 : Int32) : Option (gb_G × Int32) := gb_let (gb_pi g 77 0 0) (fun g1 => gb_bd (f_X11_isGood sh g1 x1) (fun r2 => if r2.2 = 0 then (some (r2.1, (-1))) else (if x2 = 0 then (gb_ck (32 + x1) 5520 (some (r2.1, (r2.1.1 79 ((32 + x1).toNatClampNeg))))) else if x2 = 1 then (gb_ck (8 + x1) 5520 (some (r2.1, (r2.1.1 79 ((8 + x1).toNatClampNeg))))) else if x2 = 2 then (gb_ck (24 + x1) 5520 (some (r2.1, (r2.1.1 79 ((24 + x1).toNatClampNeg))))) else if x2 = 3 then (gb_ck (40 + x1) 5520 (some (r2.1, (r2.1.1 79 ((40 + x1).toNatClampNeg))))) else if x2 = 4 then (gb_ck (48 + x1) 5520 (some (r2.1, (r2.1.1 79 ((48 + x1).toNatClampNeg))))) else if x2 = 5 then (gb_ck (16 + x1) 5520 (some (r2.1, (r2.1.1 79 ((16 + x1).toNatClampNeg))))) else if x2 = 6 then (gb_ck (56 + x1) 5520 (some (r2.1, (r2.1.1 79 ((56 + x1).toNatClampNeg))))) else (some (r2.1, (-1))))))
set_option maxRecDepth 100000 in
set_option maxHeartbeats 4000000 in
theorem t_X11_of {Γ : gb_X} {sh : List gb_Sh} {x1 : Int32} {x2 : Int32} {out : gb_G × Int32} (hS : gb_S sh) {g : gb_G} (h : f_X11_of sh g x1 x2 = some out) : gb_C Γ M_X11_of 2 0 0 sh g [.ref 77, .int x1, .int x2] (gb_Ri sh out) := by
  refine gb_C.of rfl (Nat.le_of_ble_eq_true rfl) ?_
  refine gb_pick (lv' := [(0, .ref 77), (1, .int x1), (2, .int x2)]) [0, 1, 2] rfl ?_
  unfold f_X11_of at h
  refine gb_aload_n d_X11_of_0 rfl ?_
  refine gb_iconst 0 d_X11_of_1 rfl ?_
  refine gb_puti f_X11_145 (fun h => nomatch h) (hS 77 _ rfl) rfl rfl rfl d_X11_of_2 ?_
  have h := gb_let_e h
  generalize gb_pi g 77 0 0 = g1 at h ⊢
  refine gb_aload_n d_X11_of_5 rfl ?_
  refine gb_iload_n d_X11_of_6 rfl ?_
  obtain ⟨r2, e3, h⟩ := gb_bd_e h
  refine gb_cVi (As := [.int x1]) (rest := []) m_X11_184 (t_X11_isGood (Γ := Γ) hS e3) (hS 77 _ rfl) rfl (Nat.le_of_ble_eq_true rfl) rfl rfl (Nat.le_of_ble_eq_true rfl) d_X11_of_7 ?_
  refine gb_if_ne 15 d_X11_of_10 (by decide) (fun hc => ?_) (fun hc => ?_)
  · have h := gb_if hc h
    refine gb_iload_n d_X11_of_15 rfl ?_
    by_cases hc4 : x2 = 0
    · have h := gb_it hc4 h
      refine gb_tabI 60 hc4 d_X11_of_16 (by decide) (by decide) rfl (by decide) ?_
      refine gb_aload_n d_X11_of_60 rfl ?_
      refine gb_getr (r := 79) f_X11_13 (hS 77 _ rfl) rfl d_X11_of_61 ?_
      refine gb_bipush 32 d_X11_of_64 rfl ?_
      refine gb_iload_n d_X11_of_66 rfl ?_
      refine gb_iadd d_X11_of_67 ?_
      obtain ⟨hi5, h⟩ := gb_ck_e h
      refine gb_iald_ ((32 + x1).toNatClampNeg) rfl (hS 79 _ rfl) hi5 d_X11_of_68 ?_
      cases h
      exact gb_iret d_X11_of_69 rfl ⟨rfl, rfl, rfl⟩
    replace h := gb_if hc4 h
    by_cases hc6 : x2 = 1
    · have h := gb_it hc6 h
      refine gb_tabI 70 hc6 d_X11_of_16 (by decide) (by decide) rfl (by decide) ?_
      refine gb_aload_n d_X11_of_70 rfl ?_
      refine gb_getr (r := 79) f_X11_13 (hS 77 _ rfl) rfl d_X11_of_71 ?_
      refine gb_bipush 8 d_X11_of_74 rfl ?_
      refine gb_iload_n d_X11_of_76 rfl ?_
      refine gb_iadd d_X11_of_77 ?_
      obtain ⟨hi7, h⟩ := gb_ck_e h
      refine gb_iald_ ((8 + x1).toNatClampNeg) rfl (hS 79 _ rfl) hi7 d_X11_of_78 ?_
      cases h
      exact gb_iret d_X11_of_79 rfl ⟨rfl, rfl, rfl⟩
    replace h := gb_if hc6 h
    by_cases hc8 : x2 = 2
    · have h := gb_it hc8 h
      refine gb_tabI 80 hc8 d_X11_of_16 (by decide) (by decide) rfl (by decide) ?_
      refine gb_aload_n d_X11_of_80 rfl ?_
      refine gb_getr (r := 79) f_X11_13 (hS 77 _ rfl) rfl d_X11_of_81 ?_
      refine gb_bipush 24 d_X11_of_84 rfl ?_
      refine gb_iload_n d_X11_of_86 rfl ?_
      refine gb_iadd d_X11_of_87 ?_
      obtain ⟨hi9, h⟩ := gb_ck_e h
      refine gb_iald_ ((24 + x1).toNatClampNeg) rfl (hS 79 _ rfl) hi9 d_X11_of_88 ?_
      cases h
      exact gb_iret d_X11_of_89 rfl ⟨rfl, rfl, rfl⟩
    replace h := gb_if hc8 h
    by_cases hc10 : x2 = 3
    · have h := gb_it hc10 h
      refine gb_tabI 90 hc10 d_X11_of_16 (by decide) (by decide) rfl (by decide) ?_
      refine gb_aload_n d_X11_of_90 rfl ?_
      refine gb_getr (r := 79) f_X11_13 (hS 77 _ rfl) rfl d_X11_of_91 ?_
      refine gb_bipush 40 d_X11_of_94 rfl ?_
      refine gb_iload_n d_X11_of_96 rfl ?_
      refine gb_iadd d_X11_of_97 ?_
      obtain ⟨hi11, h⟩ := gb_ck_e h
      refine gb_iald_ ((40 + x1).toNatClampNeg) rfl (hS 79 _ rfl) hi11 d_X11_of_98 ?_
      cases h
      exact gb_iret d_X11_of_99 rfl ⟨rfl, rfl, rfl⟩
    replace h := gb_if hc10 h
    by_cases hc12 : x2 = 4
    · have h := gb_it hc12 h
      refine gb_tabI 100 hc12 d_X11_of_16 (by decide) (by decide) rfl (by decide) ?_
      refine gb_aload_n d_X11_of_100 rfl ?_
      refine gb_getr (r := 79) f_X11_13 (hS 77 _ rfl) rfl d_X11_of_101 ?_
      refine gb_bipush 48 d_X11_of_104 rfl ?_
      refine gb_iload_n d_X11_of_106 rfl ?_
      refine gb_iadd d_X11_of_107 ?_
      obtain ⟨hi13, h⟩ := gb_ck_e h
      refine gb_iald_ ((48 + x1).toNatClampNeg) rfl (hS 79 _ rfl) hi13 d_X11_of_108 ?_
      cases h
      exact gb_iret d_X11_of_109 rfl ⟨rfl, rfl, rfl⟩
    replace h := gb_if hc12 h
    by_cases hc14 : x2 = 5
    · have h := gb_it hc14 h
      refine gb_tabI 110 hc14 d_X11_of_16 (by decide) (by decide) rfl (by decide) ?_
      refine gb_aload_n d_X11_of_110 rfl ?_
      refine gb_getr (r := 79) f_X11_13 (hS 77 _ rfl) rfl d_X11_of_111 ?_
      refine gb_bipush 16 d_X11_of_114 rfl ?_
      refine gb_iload_n d_X11_of_116 rfl ?_
      refine gb_iadd d_X11_of_117 ?_
      obtain ⟨hi15, h⟩ := gb_ck_e h
      refine gb_iald_ ((16 + x1).toNatClampNeg) rfl (hS 79 _ rfl) hi15 d_X11_of_118 ?_
      cases h
      exact gb_iret d_X11_of_119 rfl ⟨rfl, rfl, rfl⟩
    replace h := gb_if hc14 h
    by_cases hc16 : x2 = 6
    · have h := gb_it hc16 h
      refine gb_tabI 120 hc16 d_X11_of_16 (by decide) (by decide) rfl (by decide) ?_
      refine gb_aload_n d_X11_of_120 rfl ?_
      refine gb_getr (r := 79) f_X11_13 (hS 77 _ rfl) rfl d_X11_of_121 ?_
      refine gb_bipush 56 d_X11_of_124 rfl ?_
      refine gb_iload_n d_X11_of_126 rfl ?_
      refine gb_iadd d_X11_of_127 ?_
      obtain ⟨hi17, h⟩ := gb_ck_e h
      refine gb_iald_ ((56 + x1).toNatClampNeg) rfl (hS 79 _ rfl) hi17 d_X11_of_128 ?_
      cases h
      exact gb_iret d_X11_of_129 rfl ⟨rfl, rfl, rfl⟩
    replace h := gb_if hc16 h
    refine gb_tabO 130 d_X11_of_16 (gb_out 7 (by decide) (by decide) (by decide) (fun i hi => match i, hi with | 0, _ => hc4 | 1, _ => hc6 | 2, _ => hc8 | 3, _ => hc10 | 4, _ => hc12 | 5, _ => hc14 | 6, _ => hc16 | q + 7, h9 => absurd h9 (Nat.not_lt.mpr (Nat.le_add_left _ _)))) (by decide) ?_
    refine gb_iconst (-1) d_X11_of_130 rfl ?_
    cases h
    exact gb_iret d_X11_of_131 rfl ⟨rfl, rfl, rfl⟩
  · have h := gb_it hc h
    refine gb_iconst (-1) d_X11_of_13 rfl ?_
    cases h
    exact gb_iret d_X11_of_14 rfl ⟨rfl, rfl, rfl⟩
-- X11_reckon
noncomputable def f_X11_reckon_72 (sh : List gb_Sh) (g : gb_G) (y2 : Int64) (y4 : Int64) (z0 : Int32) : Option (gb_G × Int64) := gb_bo z0 (gb_let (gb_pi g 77 38 z0) (fun g5 => if (g5.1 77 38) = 0 then (gb_nzl y4 (some (g5, (y2 / y4)))) else (some (g5, 0))))
noncomputable def f_X11_reckon_104 (sh : List gb_Sh) (g : gb_G) (y2 : Int64) (y4 : Int64) (z0 : Int32) : Option (gb_G × Int64) := gb_bo z0 (gb_let (gb_pi g 77 38 z0) (fun g9 => if (g9.1 77 38) = 0 then (gb_nzl y4 (some (g9, (gb_reml y2 y4)))) else (some (g9, 0))))
noncomputable def f_X11_reckon (sh : List gb_Sh) (g : gb_G) (x1 : Int32) (x2 : Int64) (x3 : Int64) : Option (gb_G × Int64) := if x1 = 20 then (some (g, (x2 + x3))) else if x1 = 21 then (some (g, (x2 - x3))) else if x1 = 22 then (some (g, (x2 * x3))) else if x1 = 23 then (if (lg_cmp x3 0) = 0 then (f_X11_reckon_72 sh g x2 x3 1) else (f_X11_reckon_72 sh g x2 x3 0)) else if x1 = 24 then (if (lg_cmp x3 0) = 0 then (f_X11_reckon_104 sh g x2 x3 1) else (f_X11_reckon_104 sh g x2 x3 0)) else if x1 = 25 then (if 0 ≤ (lg_cmp x2 x3) then (some (g, 0)) else (some (g, 1))) else if x1 = 26 then (if (lg_cmp x2 x3) ≤ 0 then (some (g, 0)) else (some (g, 1))) else (if (lg_cmp x2 x3) = 0 then (some (g, 1)) else (some (g, 0)))
set_option maxRecDepth 100000 in
set_option maxHeartbeats 4000000 in
theorem t_X11_reckon_72 {Γ : gb_X} {sh : List gb_Sh} {out : gb_G × Int64} (hS : gb_S sh) : ∀ (g : gb_G) (y2 : Int64) (y4 : Int64) (z0 : Int32), f_X11_reckon_72 sh g y2 y4 z0 = some out → gb_J Γ M_X11_reckon 0 (gb_Rl sh out) 0 0 sh g 72 [(0, .ref 77), (2, .long y2), (4, .long y4)] [.int z0, .ref 77] := by
  intro g y2 y4 z0 h
  unfold f_X11_reckon_72 at h
  obtain ⟨hb6, hb6f, h⟩ := gb_bo_e2 h
  refine gb_puti f_X11_373 (fun h => nomatch h) (hS 77 _ rfl) rfl hb6 hb6f d_X11_reckon_72 ?_
  have h := gb_let_e h
  generalize gb_pi g 77 38 z0 = g5 at h ⊢
  refine gb_aload_n d_X11_reckon_75 rfl ?_
  refine gb_geti f_X11_373 (hS 77 _ rfl) rfl d_X11_reckon_76 ?_
  refine gb_if_eq 86 d_X11_reckon_79 (by decide) (fun hc => ?_) (fun hc => ?_)
  · have h := gb_it hc h
    refine gb_lload_n d_X11_reckon_86 rfl ?_
    refine gb_lload d_X11_reckon_87 rfl ?_
    obtain ⟨hn7, h⟩ := gb_nzl_e h
    refine gb_ldiv d_X11_reckon_89 hn7 ?_
    cases h
    exact gb_lret d_X11_reckon_90 rfl ⟨rfl, rfl, rfl⟩
  · have h := gb_if hc h
    refine gb_lconst 0 d_X11_reckon_82 rfl ?_
    refine gb_goto 90 d_X11_reckon_83 (by decide) ?_
    cases h
    exact gb_lret d_X11_reckon_90 rfl ⟨rfl, rfl, rfl⟩
set_option maxRecDepth 100000 in
set_option maxHeartbeats 4000000 in
theorem t_X11_reckon_104 {Γ : gb_X} {sh : List gb_Sh} {out : gb_G × Int64} (hS : gb_S sh) : ∀ (g : gb_G) (y2 : Int64) (y4 : Int64) (z0 : Int32), f_X11_reckon_104 sh g y2 y4 z0 = some out → gb_J Γ M_X11_reckon 0 (gb_Rl sh out) 0 0 sh g 104 [(0, .ref 77), (2, .long y2), (4, .long y4)] [.int z0, .ref 77] := by
  intro g y2 y4 z0 h
  unfold f_X11_reckon_104 at h
  obtain ⟨hb10, hb10f, h⟩ := gb_bo_e2 h
  refine gb_puti f_X11_373 (fun h => nomatch h) (hS 77 _ rfl) rfl hb10 hb10f d_X11_reckon_104 ?_
  have h := gb_let_e h
  generalize gb_pi g 77 38 z0 = g9 at h ⊢
  refine gb_aload_n d_X11_reckon_107 rfl ?_
  refine gb_geti f_X11_373 (hS 77 _ rfl) rfl d_X11_reckon_108 ?_
  refine gb_if_eq 118 d_X11_reckon_111 (by decide) (fun hc => ?_) (fun hc => ?_)
  · have h := gb_it hc h
    refine gb_lload_n d_X11_reckon_118 rfl ?_
    refine gb_lload d_X11_reckon_119 rfl ?_
    obtain ⟨hn11, h⟩ := gb_nzl_e h
    refine gb_reml_ d_X11_reckon_121 hn11 ?_
    cases h
    exact gb_lret d_X11_reckon_122 rfl ⟨rfl, rfl, rfl⟩
  · have h := gb_if hc h
    refine gb_lconst 0 d_X11_reckon_114 rfl ?_
    refine gb_goto 122 d_X11_reckon_115 (by decide) ?_
    cases h
    exact gb_lret d_X11_reckon_122 rfl ⟨rfl, rfl, rfl⟩
set_option maxRecDepth 100000 in
set_option maxHeartbeats 4000000 in
theorem t_X11_reckon {Γ : gb_X} {sh : List gb_Sh} {x1 : Int32} {x2 : Int64} {x3 : Int64} {out : gb_G × Int64} (hS : gb_S sh) {g : gb_G} (h : f_X11_reckon sh g x1 x2 x3 = some out) : gb_C Γ M_X11_reckon 0 0 0 sh g [.ref 77, .int x1, .long x2, .long x3] (gb_Rl sh out) := by
  refine gb_C.of rfl (Nat.le_of_ble_eq_true rfl) ?_
  refine gb_pick (lv' := [(0, .ref 77), (1, .int x1), (2, .long x2), (4, .long x3)]) [0, 1, 2, 3] rfl ?_
  unfold f_X11_reckon at h
  refine gb_iload_n d_X11_reckon_0 rfl ?_
  by_cases hc1 : x1 = 20
  · have h := gb_it hc1 h
    refine gb_tabI 44 hc1 d_X11_reckon_1 (by decide) (by decide) rfl (by decide) ?_
    refine gb_lload_n d_X11_reckon_44 rfl ?_
    refine gb_lload d_X11_reckon_45 rfl ?_
    refine gb_ladd d_X11_reckon_47 ?_
    cases h
    exact gb_lret d_X11_reckon_48 rfl ⟨rfl, rfl, rfl⟩
  replace h := gb_if hc1 h
  by_cases hc2 : x1 = 21
  · have h := gb_it hc2 h
    refine gb_tabI 49 hc2 d_X11_reckon_1 (by decide) (by decide) rfl (by decide) ?_
    refine gb_lload_n d_X11_reckon_49 rfl ?_
    refine gb_lload d_X11_reckon_50 rfl ?_
    refine gb_lsub d_X11_reckon_52 ?_
    cases h
    exact gb_lret d_X11_reckon_53 rfl ⟨rfl, rfl, rfl⟩
  replace h := gb_if hc2 h
  by_cases hc3 : x1 = 22
  · have h := gb_it hc3 h
    refine gb_tabI 54 hc3 d_X11_reckon_1 (by decide) (by decide) rfl (by decide) ?_
    refine gb_lload_n d_X11_reckon_54 rfl ?_
    refine gb_lload d_X11_reckon_55 rfl ?_
    refine gb_lmul d_X11_reckon_57 ?_
    cases h
    exact gb_lret d_X11_reckon_58 rfl ⟨rfl, rfl, rfl⟩
  replace h := gb_if hc3 h
  by_cases hc4 : x1 = 23
  · have h := gb_it hc4 h
    refine gb_tabI 59 hc4 d_X11_reckon_1 (by decide) (by decide) rfl (by decide) ?_
    refine gb_aload_n d_X11_reckon_59 rfl ?_
    refine gb_lload d_X11_reckon_60 rfl ?_
    refine gb_lconst 0 d_X11_reckon_62 rfl ?_
    refine gb_lcmp d_X11_reckon_63 ?_
    refine gb_if_ne 71 d_X11_reckon_64 (by decide) (fun hc => ?_) (fun hc => ?_)
    · have h := gb_if hc h
      refine gb_iconst 0 d_X11_reckon_71 rfl ?_
      refine gb_pick (lv' := [(0, .ref 77), (2, .long x2), (4, .long x3)]) [0, 2, 3] rfl ?_
      exact t_X11_reckon_72 hS  _ x2 x3 0 h
    · have h := gb_it hc h
      refine gb_iconst 1 d_X11_reckon_67 rfl ?_
      refine gb_goto 72 d_X11_reckon_68 (by decide) ?_
      refine gb_pick (lv' := [(0, .ref 77), (2, .long x2), (4, .long x3)]) [0, 2, 3] rfl ?_
      exact t_X11_reckon_72 hS  _ x2 x3 1 h
  replace h := gb_if hc4 h
  by_cases hc8 : x1 = 24
  · have h := gb_it hc8 h
    refine gb_tabI 91 hc8 d_X11_reckon_1 (by decide) (by decide) rfl (by decide) ?_
    refine gb_aload_n d_X11_reckon_91 rfl ?_
    refine gb_lload d_X11_reckon_92 rfl ?_
    refine gb_lconst 0 d_X11_reckon_94 rfl ?_
    refine gb_lcmp d_X11_reckon_95 ?_
    refine gb_if_ne 103 d_X11_reckon_96 (by decide) (fun hc => ?_) (fun hc => ?_)
    · have h := gb_if hc h
      refine gb_iconst 0 d_X11_reckon_103 rfl ?_
      refine gb_pick (lv' := [(0, .ref 77), (2, .long x2), (4, .long x3)]) [0, 2, 3] rfl ?_
      exact t_X11_reckon_104 hS  _ x2 x3 0 h
    · have h := gb_it hc h
      refine gb_iconst 1 d_X11_reckon_99 rfl ?_
      refine gb_goto 104 d_X11_reckon_100 (by decide) ?_
      refine gb_pick (lv' := [(0, .ref 77), (2, .long x2), (4, .long x3)]) [0, 2, 3] rfl ?_
      exact t_X11_reckon_104 hS  _ x2 x3 1 h
  replace h := gb_if hc8 h
  by_cases hc12 : x1 = 25
  · have h := gb_it hc12 h
    refine gb_tabI 123 hc12 d_X11_reckon_1 (by decide) (by decide) rfl (by decide) ?_
    refine gb_lload_n d_X11_reckon_123 rfl ?_
    refine gb_lload d_X11_reckon_124 rfl ?_
    refine gb_lcmp d_X11_reckon_126 ?_
    refine gb_if_ge 134 d_X11_reckon_127 (by decide) (fun hc => ?_) (fun hc => ?_)
    · have h := gb_it hc h
      refine gb_lconst 0 d_X11_reckon_134 rfl ?_
      cases h
      exact gb_lret d_X11_reckon_135 rfl ⟨rfl, rfl, rfl⟩
    · have h := gb_if hc h
      refine gb_lconst 1 d_X11_reckon_130 rfl ?_
      refine gb_goto 135 d_X11_reckon_131 (by decide) ?_
      cases h
      exact gb_lret d_X11_reckon_135 rfl ⟨rfl, rfl, rfl⟩
  replace h := gb_if hc12 h
  by_cases hc13 : x1 = 26
  · have h := gb_it hc13 h
    refine gb_tabI 136 hc13 d_X11_reckon_1 (by decide) (by decide) rfl (by decide) ?_
    refine gb_lload_n d_X11_reckon_136 rfl ?_
    refine gb_lload d_X11_reckon_137 rfl ?_
    refine gb_lcmp d_X11_reckon_139 ?_
    refine gb_if_le 147 d_X11_reckon_140 (by decide) (fun hc => ?_) (fun hc => ?_)
    · have h := gb_it hc h
      refine gb_lconst 0 d_X11_reckon_147 rfl ?_
      cases h
      exact gb_lret d_X11_reckon_148 rfl ⟨rfl, rfl, rfl⟩
    · have h := gb_if hc h
      refine gb_lconst 1 d_X11_reckon_143 rfl ?_
      refine gb_goto 148 d_X11_reckon_144 (by decide) ?_
      cases h
      exact gb_lret d_X11_reckon_148 rfl ⟨rfl, rfl, rfl⟩
  replace h := gb_if hc13 h
  refine gb_tabO 149 d_X11_reckon_1 (gb_out 7 (by decide) (by decide) (by decide) (fun i hi => match i, hi with | 0, _ => hc1 | 1, _ => hc2 | 2, _ => hc3 | 3, _ => hc4 | 4, _ => hc8 | 5, _ => hc12 | 6, _ => hc13 | q + 7, h9 => absurd h9 (Nat.not_lt.mpr (Nat.le_add_left _ _)))) (by decide) ?_
  refine gb_lload_n d_X11_reckon_149 rfl ?_
  refine gb_lload d_X11_reckon_150 rfl ?_
  refine gb_lcmp d_X11_reckon_152 ?_
  refine gb_if_ne 160 d_X11_reckon_153 (by decide) (fun hc => ?_) (fun hc => ?_)
  · have h := gb_if hc h
    refine gb_lconst 0 d_X11_reckon_160 rfl ?_
    cases h
    exact gb_lret d_X11_reckon_161 rfl ⟨rfl, rfl, rfl⟩
  · have h := gb_it hc h
    refine gb_lconst 1 d_X11_reckon_156 rfl ?_
    refine gb_goto 161 d_X11_reckon_157 (by decide) ?_
    cases h
    exact gb_lret d_X11_reckon_161 rfl ⟨rfl, rfl, rfl⟩
