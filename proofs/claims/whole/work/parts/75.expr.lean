/-! ===== an expression, in the reference ===== -/
/-- the reference between expressions -/
def RX (n : Nat) (B : Nat → Int32) (ord : Bool) (g : gb_G) (s l : Nat) (cd : Cd) : Prop := RSt n B ord (gb_pi (gb_pi g 77 29 0) 77 30 0) s l cd [] 0
def XO (n : Nat) (B : Nat → Int32) (ord : Bool) (s l : Nat) (cd : Cd) (R : Option gb_G) : Ou → Prop
  | .inl p => ∃ r, R = some r ∧ RB r p
  | .inr (s', l', D, _) => ∃ (r : gb_G) (cd' : Cd), R = some r ∧ RSt n B ord r s' l' cd' [] 0 ∧ lowR cd cd' ∧ cd.1 < cd'.1 ∧ XR ord cd'.2.1 cd'.2.2 (nW ord) cd.1 cd'.1 (l' - l) D
theorem l_ov {sh : List gb_Sh} {g : gb_G} {y1 : Int32} {f : Nat} (hb : g.1 77 19 = 0) : rL sh (f + 1) g y1 4 = gb_bd (f_X11_settle sh g 1) (fun r => some r) := by
  show f_X11_readExpression_20 sh (f + 1) g y1 4 = _
  rw [f_X11_readExpression_20, if_pos hb, if_pos rfl]; rfl
theorem inv_0 {Q : Pl} (h : ∀ q ∈ Q, q.1 ≤ 30) : inv (Q ++ []) = -1 := by rw [inv_a Q h]; rfl
/-- a SUM -/
theorem sum_m {sh : List gb_Sh} {n s l : Nat} {B : Nat → Int32} {ord : Bool} {g : gb_G} {cd : Cd} (hn : n ≤ 400) (h : RX n B ord g s l cd) : XO n B ord s l cd (f_X11_readExpression sh g 0) (spO n B ord 60 0 0 s l) := by
  have hsn := h.1.2.1
  have hl50 := h.2.2.2.2.2.2.2.2.2.2.1
  have r := RD_m (sh := sh) (B := B) (ord := ord) (y1 := 0) hn 60 0 0 (by omega) (by omega) (by decide) s l (gb_pi (gb_pi g 77 29 0) 77 30 0) cd [] 1 h (by decide) trivial (Or.inl rfl)
  obtain ⟨v, ve⟩ := spO_v (B := B) (ord := ord) hn 60 0 0 s l hsn hl50
  have e0 : f_X11_readExpression sh g 0 = rL sh gb_N (gb_pi (gb_pi g 77 29 0) 77 30 0) 0 1 := by
    unfold f_X11_readExpression f_X11_readExpression_19
    rw [gb_let_s, gb_let_s, if_pos rfl]
  rw [e0]
  cases ho : spO n B ord 60 0 0 s l with
  | inl p =>
    rw [ho] at r
    obtain ⟨x, x1, x2⟩ := r
    exact ⟨x, x2 _ (by rw [show gb_N = 1000000 from rfl]; omega), x1⟩
  | inr x =>
    obtain ⟨s', l', D, φ⟩ := x
    rw [ho] at r v ve
    obtain ⟨r', cd', Q, j, a1, a2, a3, a4, a5, a6, a7, a8⟩ := r
    obtain ⟨v1, v2, v3, v4, v5, v6⟩ := v
    have hb := a3.2.2.2.2.2.2.2.2.2.1
    have ei := inn_m (sh := sh) a3.2.2.2.2.2.2.1 a3.2.2.2.2.2.2.2.1 (by omega)
    rw [inv_0 fun q hq => by have := (a4 q hq).2; omega] at ei
    have eb : f_X11_behindSum sh r' 0 = some (r', 4) := by
      rw [bs_n a3.1 ve.2 ve.1]
      unfold f_X11_behindSum_71
      rw [if_pos rfl, ei, gb_bd_s]
      simp only []
      rw [if_neg (by decide), if_pos trivial, if_pos trivial]
    generalize hS : stl 5 (Q ++ []) cd' = S at a5 a6 a7 a8
    obtain ⟨SP, cdS⟩ := S
    simp only [] at a5 a6 a7 a8
    subst a5
    obtain ⟨o, eo, c⟩ := RSt_se (sh := sh) (lv := 1) a3 hn (by omega)
    rw [stl_2 (lv := 5) (by omega), hS] at c
    refine ⟨o, cdS, ?_, c, a6, a7, a8⟩
    rw [a2 _ (by rw [show gb_N = 1000000 from rfl]; omega), show gb_N - j = (999998 - j) + 1 + 1 by rw [show gb_N = 1000000 from rfl]; omega, l_bs a3.2.1 eb]
    simp only []
    rw [l_ov a3.2.1, show (1 : Int32) = Int32.ofNat 1 from rfl, eo, gb_bd_s]
/-- a TEST -/
theorem test_m {sh : List gb_Sh} {n s l : Nat} {B : Nat → Int32} {ord : Bool} {g : gb_G} {cd : Cd} (hn : n ≤ 400) (h : RX n B ord g s l cd) : XO n B ord s l cd (f_X11_readExpression sh g 1) (spO n B ord 60 3 0 s l) := by
  have hsn := h.1.2.1
  have hl50 := h.2.2.2.2.2.2.2.2.2.2.1
  have r := RD_m (sh := sh) (B := B) (ord := ord) (y1 := 1) hn 60 3 0 (by omega) (by omega) (by decide) s l (gb_pi (gb_pi g 77 29 0) 77 30 0) cd [] 0 h (by decide) ⟨by decide, fun _ => rfl⟩ rfl
  obtain ⟨v, ve⟩ := spO_v (B := B) (ord := ord) hn 60 3 0 s l hsn hl50
  have e0 : f_X11_readExpression sh g 1 = rL sh gb_N (gb_pi (gb_pi g 77 29 0) 77 30 0) 1 0 := by
    unfold f_X11_readExpression f_X11_readExpression_19
    rw [gb_let_s, gb_let_s, if_neg (by decide)]
  rw [e0]
  cases ho : spO n B ord 60 3 0 s l with
  | inl p =>
    rw [ho] at r
    obtain ⟨x, x1, x2⟩ := r
    exact ⟨x, x2 _ (by rw [show gb_N = 1000000 from rfl]; omega), x1⟩
  | inr x =>
    obtain ⟨s', l', D, φ⟩ := x
    rw [ho] at r v ve
    obtain ⟨r', cd', Q, j, a1, a2, a3, a4, a5, a6, a7, a8⟩ := r
    obtain ⟨v1, v2, v3, v4, v5, v6⟩ := v
    have hb := a3.2.2.2.2.2.2.2.2.2.1
    have ei := inn_m (sh := sh) a3.2.2.2.2.2.2.1 a3.2.2.2.2.2.2.2.1 (by omega)
    rw [inv_0 fun q hq => (a4 q hq).2] at ei
    have eb : f_X11_behindTest sh r' = some (r', 4) := by
      rw [bt_n hn a3.1 ve.2.1 ve.2.2, ei, gb_bd_s]
      exact if_pos rfl
    obtain ⟨o, eo, c⟩ := RSt_se (sh := sh) (lv := 1) a3 hn (by omega)
    rw [a5] at c
    refine ⟨o, _, ?_, c, a6, a7, a8⟩
    rw [a2 _ (by rw [show gb_N = 1000000 from rfl]; omega), show gb_N - j = (999998 - j) + 1 + 1 by rw [show gb_N = 1000000 from rfl]; omega, l_bt a3.2.1 eb]
    simp only []
    rw [l_ov a3.2.1, show (1 : Int32) = Int32.ofNat 1 from rfl, eo, gb_bd_s]
