/-! ===== ORDERS: what one does, on both sides ===== -/
/-- the basket, what can be undone, done, latest -/
abbrev OS : Type := ms_B × ms_H × Nat × Int32
noncomputable def actO (k : Nat) (x y : Int32) (β : ms_B) (H : ms_H) : Option (ms_B × ms_H × Int32) :=
  if k = 3 then (if bTe β 0 = 999 then none else some (bCur β (sPass β), hPush H 3 0 (cur β), bTe β 0 + 1))
  else if 0 ≤ x.toInt ∧ x.toInt < bN β then
    (if k = 2 then (if 0 ≤ y.toInt ∧ y.toInt ≤ 99 then some (bCur β (sSet β (19 + x.toNatClampNeg) y), hPush H 2 x.toNatClampNeg (cur β), bT β x.toNatClampNeg 2) else none)
    else if bT β x.toNatClampNeg 5 = Int32.ofNat (1 - k) then none else some (bCur β (sSet β (11 + x.toNatClampNeg) (Int32.ofNat (1 - k))), hPush H k x.toNatClampNeg (cur β), ms_sum (fun i => bT (bCur β (sSet β (11 + x.toNatClampNeg) (Int32.ofNat (1 - k)))) i 5) (bN β)))
  else none
theorem act_3 {x y : Int32} {β : ms_B} {H : ms_H} : actO 3 x y β H = if bTe β 0 = 999 then none else some (bCur β (sPass β), hPush H 3 0 (cur β), bTe β 0 + 1) := by
  unfold actO; rw [if_pos rfl]
theorem act_2 {j : Nat} {y : Int32} {β : ms_B} {H : ms_H} (hn : bN β ≤ 8) (hj : j < bN β) : actO 2 (Int32.ofNat j) y β H = if 0 ≤ y.toInt ∧ y.toInt ≤ 99 then some (bCur β (sSet β (19 + j) y), hPush H 2 j (cur β), bT β j 2) else none := by
  unfold actO; rw [if_neg (by omega), if_pos (by rw [o_int (by omega)]; omega), if_pos rfl, o_cl (by omega)]
theorem act_1 {k j : Nat} {y : Int32} {β : ms_B} {H : ms_H} (hk : k ≤ 1) (hn : bN β ≤ 8) (hj : j < bN β) : actO k (Int32.ofNat j) y β H = if bT β j 5 = Int32.ofNat (1 - k) then none else some (bCur β (sSet β (11 + j) (Int32.ofNat (1 - k))), hPush H k j (cur β), ms_sum (fun i => bT (bCur β (sSet β (11 + j) (Int32.ofNat (1 - k)))) i 5) (bN β)) := by
  unfold actO; rw [if_neg (by omega), if_pos (by rw [o_int (by omega)]; omega), if_neg (by omega), o_cl (by omega)]
theorem act_n {k : Nat} {x y : Int32} {β : ms_B} {H : ms_H} (hk : ¬ k = 3) (hx : ¬ im 0 ((bN β : Int) - 1) x) : actO k x y β H = none := by
  unfold actO; rw [if_neg hk, if_neg (fun z => hx (by rw [im]; omega))]
/-- how much can be told -/
def wfO (σ : OS) : Prop := wfB σ.1 ∧ wfH σ.2.1 (bN σ.1) (cur σ.1) ∧ im (-1) 99 σ.2.2.2
theorem act_w {k : Nat} {x y : Int32} {β β' : ms_B} {H H' : ms_H} {t : Int32} (hk : k ≤ 3) (hw : wfB β) (hH : wfH H (bN β) (cur β)) (h : actO k x y β H = some (β', H', t)) : wfB β' ∧ wfH H' (bN β') (cur β') ∧ 0 ≤ t.toInt ∧ (k = 2 → im 0 99 t) ∧ ∃ s, β' = bCur β s := by
  have hn := hw.1
  by_cases h3 : k = 3
  · subst h3
    rw [act_3] at h
    split at h
    · cases h
    · next q =>
      cases h
      have h0 := hw.2.2.2.2.2.2.2.2.2.2.1
      have h1 : ¬ (bTe β 0).toInt = (999 : Int32).toInt := fun z => q (Int32.toInt_inj.1 z)
      rw [show (999 : Int32).toInt = 999 from rfl] at h1
      rw [im] at h0
      refine ⟨wfB_cur hw (wfC_pass hw q), by rw [cur_curf]; exact wfH_push hH (wfh_pa hw q), ?_, fun z => by omega, _, rfl⟩
      rw [i_add, show (1 : Int32).toInt = 1 from rfl]
      · omega
      · rw [show (1 : Int32).toInt = 1 from rfl]; omega
      · rw [show (1 : Int32).toInt = 1 from rfl]; omega
  · by_cases hx : im 0 ((bN β : Int) - 1) x
    · obtain ⟨j, hj, rfl⟩ := o_of hx
      by_cases h2 : k = 2
      · subst h2
        rw [act_2 hn hj] at h
        split at h
        · next q =>
          cases h
          have hi : im 0 99 y := by rw [im]; exact q
          have ht := (hw.2.2.2.2.2.2.1 j hj).2.2.1
          exact ⟨wfB_cur hw (wfC_set hw hj (Or.inr (Or.inr ⟨rfl, hi⟩))), by rw [cur_curf]; exact wfH_push hH (wfh_we hw hj), ht.1, fun _ => ht, _, rfl⟩
        · cases h
      · have hk1 : k ≤ 1 := by omega
        rw [act_1 hk1 hn hj] at h
        split at h
        · cases h
        · next q =>
          cases h
          have hi : im 0 1 (Int32.ofNat (1 - k)) := by rw [im, o_int (by omega)]; omega
          have hs : wfC (bN β) (sSet β (11 + j) (Int32.ofNat (1 - k))) := wfC_set hw hj (Or.inr (Or.inl ⟨rfl, hi⟩))
          have hw2 := wfB_cur hw hs
          have hp := wfh_la (lk := 1 - k) hw hj (by omega) q
          rw [show 1 - (1 - k) = k by omega] at hp
          exact ⟨hw2, by rw [cur_curf]; exact wfH_push hH hp, (ms_sum_01 (show bN β ≤ 1000 by omega) fun i hi => (hw2.2.2.2.2.2.2.1 i hi).2.2.2.2.2.1).1, fun z => by omega, _, rfl⟩
    · rw [act_n h3 hx] at h; cases h
/-! the class -/
def AC1 (sh : List gb_Sh) (g : gb_G) (n : Nat) (R : Option (gb_G × Int32)) : Option (ms_B × ms_H × Int32) → Prop
  | none => ∃ v : Int32, R = some (g, v) ∧ v.toInt < 0
  | some (β', H', t) => ∃ o, R = some (o, t) ∧ cvB sh o 1 β' ∧ cvH o 33 H' n
theorem lak_c {sh : List gb_Sh} {g : gb_G} {β : ms_B} {H : ms_H} {k : Nat} {x y : Int32} (hk : k ≤ 1) (hw : wfB β) (hc : cvB sh g 1 β) (hh : cvH g 33 H (bN β)) (hN : H.1 ≤ 16) : AC1 sh g (bN β) (f_X10_changeLacking sh g x (Int32.ofNat (1 - k))) (actO k x y β H) := by
  have hn := hw.1
  by_cases hx : im 0 ((bN β : Int) - 1) x
  · obtain ⟨j, hj, rfl⟩ := o_of hx
    rw [act_1 hk hn hj]
    by_cases q : bT β j 5 = Int32.ofNat (1 - k)
    · rw [if_pos q]
      refine ⟨-3, ?_, by decide⟩
      unfold f_X10_changeLacking
      rw [has_t hn hc.1 hx, bt]
      simp only []
      rw [rd_t (y := 5) (j := 5) hw hc rfl hj rfl (by omega), gb_bd_s]
      simp only []
      rw [if_pos q]
    · rw [if_neg q]
      obtain ⟨⟨o, v⟩, e, h1, h2, h3⟩ := chl_c (sh := sh) (lk := 1 - k) hw hc hh hN hj (by omega) q
      rw [show 1 - (1 - k) = k by omega] at h2
      have h3 : v = _ := h3
      subst h3
      exact ⟨o, e, h1, h2⟩
  · rw [act_n (by omega) hx]
    refine ⟨-2, ?_, by decide⟩
    unfold f_X10_changeLacking
    rw [has_f hn hc.1 hx, bf]
theorem we_c {sh : List gb_Sh} {g : gb_G} {β : ms_B} {H : ms_H} {x y : Int32} (hw : wfB β) (hc : cvB sh g 1 β) (hh : cvH g 33 H (bN β)) (hN : H.1 ≤ 16) : AC1 sh g (bN β) (f_X10_changeWeight sh g x y) (actO 2 x y β H) := by
  have hn := hw.1
  by_cases hy : im 0 99 y
  · by_cases hx : im 0 ((bN β : Int) - 1) x
    · obtain ⟨j, hj, rfl⟩ := o_of hx
      rw [act_2 hn hj, if_pos (by rw [im] at hy; exact hy)]
      obtain ⟨⟨o, v⟩, e, h1, h2, h3⟩ := chw_c (sh := sh) hw hc hh hN hj hy
      have h3 : v = _ := h3
      subst h3
      exact ⟨o, e, h1, h2⟩
    · rw [act_n (by omega) hx]
      refine ⟨-2, ?_, by decide⟩
      unfold f_X10_changeWeight
      rw [within_t hy rfl rfl, bt, has_f hn hc.1 hx, bf]
  · have e : f_X10_changeWeight sh g x y = some (g, -1) := by
      unfold f_X10_changeWeight
      rw [within_f hy rfl rfl, bf]
    have e2 : actO 2 x y β H = none := by
      unfold actO
      rw [if_neg (by omega)]
      split
      · rw [if_pos rfl, if_neg (fun z => hy (by rw [im]; exact z))]
      · rfl
    rw [e, e2]
    exact ⟨-1, rfl, by decide⟩
theorem pa_c {sh : List gb_Sh} {g : gb_G} {β : ms_B} {H : ms_H} {x y : Int32} (hw : wfB β) (hc : cvB sh g 1 β) (hh : cvH g 33 H (bN β)) (hN : H.1 ≤ 16) : AC1 sh g (bN β) (f_X10_passMonth sh g) (actO 3 x y β H) := by
  rw [act_3]
  by_cases q : bTe β 0 = 999
  · rw [if_pos q]
    refine ⟨-3, ?_, by decide⟩
    unfold f_X10_passMonth
    rw [show g.1 (1 + 4) 0 = bTe β 0 from hc.2.2.2.2.2.2.1 0 (by omega), q, if_neg (by decide)]
  · rw [if_neg q]
    obtain ⟨⟨o, v⟩, e, h1, h2, h3⟩ := pM_c (sh := sh) hw hc hh hN q
    have h3 : v = _ := h3
    subst h3
    exact ⟨o, e, h1, h2⟩
/-! the reference -/
def AM1 (g : gb_G) (n : Nat) (R : Option (gb_G × Int32)) : Option (ms_B × ms_H × Int32) → Prop
  | none => ∃ v : Int32, R = some (g, v) ∧ v.toInt < 0
  | some (β', H', t) => ∃ o, R = some (o, t) ∧ mvB (o.1 79) β' ∧ mvH o H' n ∧ ∀ k, 432 ≤ k → o.1 82 k = g.1 82 k
theorem r77_82 {sh : List gb_Sh} {g o : gb_G} {N : Nat} {y : Int32} (hN : N < 16) (h8 : g.1 77 8 = Int32.ofNat N) (e : f_X11_remember_77 sh g y = some o) : ∀ k, 432 ≤ k → o.1 82 k = g.1 82 k := by
  unfold f_X11_remember_77 at e
  obtain ⟨r, er, -, F⟩ := ka_m (sh := sh) (q := N) (g := g) (by omega)
  rw [h8, er, gb_bd_s] at e
  obtain ⟨-, e⟩ := gb_ck_e e
  obtain ⟨g4, e4, e⟩ := gb_let_x e
  obtain ⟨g5, e5, e⟩ := gb_let_x e
  cases e
  intro k hk
  rw [e5, pi_n (by omega), e4, pi_n (by omega)]
  exact (F 82 k (by omega)).1
theorem r_82 {sh : List gb_Sh} {g o : gb_G} {N K : Nat} (hN : N ≤ 16) (h8 : g.1 77 8 = Int32.ofNat N) (e : f_X11_remember sh g (Int32.ofNat K) = some o) : ∀ k, 432 ≤ k → o.1 82 k = g.1 82 k := by
  have key : gb_T (f_X11_remember sh g (Int32.ofNat K)) (fun o' => o' = o ∧ ∀ k, 432 ≤ k → o'.1 82 k = g.1 82 k) := by
    unfold f_X11_remember at e ⊢
    by_cases q : N = 16
    · have e16 : g.1 77 8 = 16 := by rw [h8, q]; rfl
      rw [if_pos e16] at e ⊢
      have e0 : gb_T (f_X11_remember_11 sh (fun w w0 => f_X11_remember_77 sh w w0) gb_N g (Int32.ofNat K) 0) (fun o' => ∀ k, 432 ≤ k → o'.1 82 k = g.1 82 k) := by
        refine cpl0 (fun fuel g y => f_X11_remember_11 sh (fun w w0 => f_X11_remember_77 sh w w0) fuel g (Int32.ofNat K) y) 82 82 0 27 405 (by omega) (by unfold gb_N; omega) g (fun f g i hi => ?_) fun f g1 h1 F1 => ?_
        · show f_X11_remember_11 sh _ (f + 1) g (Int32.ofNat K) (Int32.ofNat i) = f_X11_remember_11 sh _ f _ (Int32.ofNat K) _
          rw [f_X11_remember_11, if_neg (by rw [show (405 : Int32) = Int32.ofNat 405 from rfl, o_le (by omega) (by omega)]; omega), show (27 : Int32) = Int32.ofNat 27 from rfl, o_add, gb_ck_s (o_in (by omega) (by omega)), gb_ck_s (o_in (by omega) (by omega)), gb_let_s, o_cl (by omega), o_cl (by omega), o_succ, Nat.add_comm i 27, Nat.zero_add]
        · show gb_T (f_X11_remember_11 sh _ (f + 1) g1 (Int32.ofNat K) (Int32.ofNat 405)) _
          rw [f_X11_remember_11, if_pos (by decide)]
          refine cpl0 (fun fuel g y => f_X11_remember_41 sh (fun w w0 => f_X11_remember_77 sh w w0) fuel g (Int32.ofNat K) y) 83 83 0 1 15 (by omega) (by unfold gb_N; omega) g1 (fun f g i hi => ?_) fun f g2 h2 F2 => ?_
          · show f_X11_remember_41 sh _ (f + 1) g (Int32.ofNat K) (Int32.ofNat i) = f_X11_remember_41 sh _ f _ (Int32.ofNat K) _
            rw [f_X11_remember_41, if_neg (by rw [show (15 : Int32) = Int32.ofNat 15 from rfl, o_le (by omega) (by omega)]; omega), o_succ, gb_ck_s (o_in (by omega) (by omega)), gb_ck_s (o_in (by omega) (by omega)), gb_let_s, o_cl (by omega), o_cl (by omega), Nat.add_comm 1 i, Nat.zero_add]
          · show gb_T (f_X11_remember_41 sh _ (f + 1) g2 (Int32.ofNat K) (Int32.ofNat 15)) _
            rw [f_X11_remember_41, if_pos (by decide), gb_let_s, (F2 77 8 (by omega)).1, (F1 77 8 (by omega)).1, h8, q]
            have h15 : (gb_pi g2 77 8 (Int32.ofNat 16 - 1)).1 77 8 = Int32.ofNat 15 := pi_e.trans rfl
            obtain ⟨r, er, -, Fr⟩ := ka_m (sh := sh) (q := 15) (g := gb_pi g2 77 8 (Int32.ofNat 16 - 1)) (by omega)
            have e77 : f_X11_remember_77 sh (gb_pi g2 77 8 (Int32.ofNat 16 - 1)) (Int32.ofNat K) = some (gb_pi (gb_pi r 83 15 (Int32.ofNat K)) 77 8 ((gb_pi r 83 15 (Int32.ofNat K)).1 77 8 + 1)) := by
              unfold f_X11_remember_77
              rw [h15, er, gb_bd_s, (Fr 77 8 (by omega)).1, h15, gb_ck_s (o_in (by omega) (by omega)), gb_let_s, o_cl (by omega), gb_let_s]
            refine ⟨_, e77, fun k hk => ?_⟩
            rw [pi_n (by omega), pi_n (by omega), (Fr 82 k (by omega)).1, pi_n (by omega), (F2 82 k (by omega)).1, (F1 82 k (by omega)).1]
      obtain ⟨x, e1, e2⟩ := e0
      rw [e1] at e
      cases e
      exact ⟨_, e1, rfl, e2⟩
    · rw [if_neg (fun z => q (by rw [h8] at z; exact o_inj (j := 16) (by omega) (by omega) z))] at e ⊢
      exact ⟨o, e, rfl, r77_82 (by omega) h8 e⟩
  obtain ⟨x, -, rfl, h⟩ := key
  exact h
theorem lackNow_82 {sh : List gb_Sh} {g : gb_G} {o : gb_G × Int32} {N : Nat} {x : Int32} (hN : N ≤ 16) (h8 : g.1 77 8 = Int32.ofNat N) (h : f_X11_lackNow sh g x = some o) : ∀ k, 432 ≤ k → o.1.1 82 k = g.1 82 k := by
  unfold f_X11_lackNow at h
  obtain ⟨r1, er1, h⟩ := gb_bd_e h
  have F1 := (w_X11_isGood er1).no
  rcases gb_ite_e h with h | h
  · cases h; intro k _; rw [F1]
  · obtain ⟨-, h⟩ := gb_ck_e h
    rcases gb_ite_e h with h | h
    · cases h; intro k _; rw [F1]
    · obtain ⟨r4, er4, h⟩ := gb_bd_e h
      have R := r_82 (K := 0) hN (by rw [F1]; exact h8) er4
      obtain ⟨-, h⟩ := gb_ck_e h
      obtain ⟨g7, e7, h⟩ := gb_let_x h
      obtain ⟨r8, er8, h⟩ := gb_bd_e h
      have F8 := (w_X11_lackingOnes er8).no
      cases h
      intro k hk
      rw [F8, e7, pi_n (by omega), R k hk, F1]
theorem findNow_82 {sh : List gb_Sh} {g : gb_G} {o : gb_G × Int32} {N : Nat} {x : Int32} (hN : N ≤ 16) (h8 : g.1 77 8 = Int32.ofNat N) (h : f_X11_findNow sh g x = some o) : ∀ k, 432 ≤ k → o.1.1 82 k = g.1 82 k := by
  unfold f_X11_findNow at h
  obtain ⟨r1, er1, h⟩ := gb_bd_e h
  have F1 := (w_X11_isGood er1).no
  rcases gb_ite_e h with h | h
  · cases h; intro k _; rw [F1]
  · obtain ⟨-, h⟩ := gb_ck_e h
    rcases gb_ite_e h with h | h
    · cases h; intro k _; rw [F1]
    · obtain ⟨r4, er4, h⟩ := gb_bd_e h
      have R := r_82 (K := 1) hN (by rw [F1]; exact h8) er4
      obtain ⟨-, h⟩ := gb_ck_e h
      obtain ⟨g7, e7, h⟩ := gb_let_x h
      obtain ⟨r8, er8, h⟩ := gb_bd_e h
      have F8 := (w_X11_lackingOnes er8).no
      cases h
      intro k hk
      rw [F8, e7, pi_n (by omega), R k hk, F1]
theorem weighNow_82 {sh : List gb_Sh} {g : gb_G} {o : gb_G × Int32} {N : Nat} {x y : Int32} (hN : N ≤ 16) (h8 : g.1 77 8 = Int32.ofNat N) (h : f_X11_weighNow sh g x y = some o) : ∀ k, 432 ≤ k → o.1.1 82 k = g.1 82 k := by
  unfold f_X11_weighNow at h
  obtain ⟨r1, er1, h⟩ := gb_bd_e h
  have F1 := (w_X11_in er1).no
  rcases gb_ite_e h with h | h
  · cases h; intro k _; rw [F1]
  · obtain ⟨r3, er3, h⟩ := gb_bd_e h
    have F3 := (w_X11_isGood er3).no
    rcases gb_ite_e h with h | h
    · cases h; intro k _; rw [F3, F1]
    · obtain ⟨r5, er5, h⟩ := gb_bd_e h
      have R := r_82 (K := 2) hN (by rw [F3, F1]; exact h8) er5
      obtain ⟨-, h⟩ := gb_ck_e h
      obtain ⟨-, h⟩ := gb_ck_e h
      obtain ⟨g9, e9, h⟩ := gb_let_x h
      cases h
      intro k hk
      rw [e9, pi_n (by omega), R k hk, F3, F1]
theorem passNow_82 {sh : List gb_Sh} {g : gb_G} {o : gb_G × Int32} {N : Nat} (hN : N ≤ 16) (h8 : g.1 77 8 = Int32.ofNat N) (h : f_X11_passNow sh g = some o) : ∀ k, 432 ≤ k → o.1.1 82 k = g.1 82 k := by
  unfold f_X11_passNow at h
  rcases gb_ite_e h with h | h
  · cases h; intro k _; rfl
  · obtain ⟨r1, er1, h⟩ := gb_bd_e h
    have R := r_82 (K := 3) hN h8 er1
    obtain ⟨r3, er3, h⟩ := gb_bd_e h
    have F3 := w_X11_passIt er3
    cases h
    intro k hk
    exact (F3 82 k (by omega)).1.trans (R k hk)
theorem act_m {sh : List gb_Sh} {g : gb_G} {β : ms_B} {H : ms_H} {k : Nat} {x y x' y' : Int32} (hk : k ≤ 3) (hw : wfB β) (hm : mvB (g.1 79) β) (hh : mvH g H (bN β)) (hN : H.1 ≤ 16) (h20 : g.1 77 20 = 0) (hx : ¬ k = 3 → x' = x) (hy : k = 2 → y' = y) : AM1 g (bN β) (f_X11_act sh g (Int32.ofNat k) x' y') (actO k x y β H) := by
  have hn := hw.1
  unfold f_X11_act
  by_cases h3 : k = 3
  · subst h3
    rw [if_neg (by decide), if_neg (by decide), if_neg (by decide), act_3]
    by_cases q : bTe β 0 = 999
    · rw [if_pos q]
      have e : f_X11_passNow sh g = some (g, -3) := by
        unfold f_X11_passNow
        rw [show g.1 79 5 = bTe β 0 from hm.2.2.2.2.2.2.1 0 (by omega), if_pos q]
      rw [e, gb_bd_s]
      exact ⟨-3, rfl, by decide⟩
    · rw [if_neg q]
      obtain ⟨⟨o, v⟩, e, h1, h2, hv⟩ := pN_m (sh := sh) hw hm hh hN h20 q
      have hv : v = _ := hv
      subst hv
      rw [e, gb_bd_s]
      exact ⟨o, rfl, h1, h2, passNow_82 hN hh.1 e⟩
  · rw [hx h3]
    by_cases hX : im 0 ((bN β : Int) - 1) x
    · obtain ⟨j, hj, rfl⟩ := o_of hX
      by_cases h2 : k = 2
      · subst h2
        rw [if_neg (by decide), if_neg (by decide), if_pos (by decide), hy rfl, act_2 hn hj]
        by_cases hY : im 0 99 y
        · rw [if_pos (by rw [im] at hY; exact hY)]
          obtain ⟨⟨o, v⟩, e, h1, h2, hv⟩ := weighNow_m (sh := sh) hw hm hh hN hj hY
          have hv : v = _ := hv
          subst hv
          rw [e, gb_bd_s]
          exact ⟨o, rfl, h1, h2, weighNow_82 hN hh.1 e⟩
        · rw [if_neg (fun z => hY (by rw [im]; exact z))]
          have e : f_X11_weighNow sh g (Int32.ofNat j) y = some (g, -1) := by
            unfold f_X11_weighNow
            rw [in_f hY rfl rfl, bf]
          rw [e, gb_bd_s]
          exact ⟨-1, rfl, by decide⟩
      · have h01 : k = 0 ∨ k = 1 := by omega
        rcases h01 with rfl | rfl
        · rw [if_pos (by decide), act_1 (by omega) hn hj]
          by_cases q : bT β j 5 = Int32.ofNat (1 - 0)
          · rw [if_pos q]
            have e : f_X11_lackNow sh g (Int32.ofNat j) = some (g, -3) := by
              unfold f_X11_lackNow
              rw [isGood_t hn hm.1 hX, bt, show (16 : Int32) = Int32.ofNat 16 from rfl, o_add, gb_ck_s (o_in (by omega) (by omega)), o_cl (by omega), (hm.2.1 j hj).2.2.2.2.2.1, if_pos (show bT β j 5 = 1 from q)]
            rw [e, gb_bd_s]
            exact ⟨-3, rfl, by decide⟩
          · rw [if_neg q]
            obtain ⟨⟨o, v⟩, e, h1, h2, hv⟩ := lackNow_m (sh := sh) hw hm hh hN hj q
            have hv : v = _ := hv
            subst hv
            rw [e, gb_bd_s]
            exact ⟨o, rfl, h1, h2, lackNow_82 hN hh.1 e⟩
        · rw [if_neg (by decide), if_pos (by decide), act_1 (by omega) hn hj]
          by_cases q : bT β j 5 = Int32.ofNat (1 - 1)
          · rw [if_pos q]
            have e : f_X11_findNow sh g (Int32.ofNat j) = some (g, -3) := by
              unfold f_X11_findNow
              rw [isGood_t hn hm.1 hX, bt, show (16 : Int32) = Int32.ofNat 16 from rfl, o_add, gb_ck_s (o_in (by omega) (by omega)), o_cl (by omega), (hm.2.1 j hj).2.2.2.2.2.1, if_pos (show bT β j 5 = 0 from q)]
            rw [e, gb_bd_s]
            exact ⟨-3, rfl, by decide⟩
          · rw [if_neg q]
            obtain ⟨⟨o, v⟩, e, h1, h2, hv⟩ := findNow_m (sh := sh) hw hm hh hN hj q
            have hv : v = _ := hv
            subst hv
            rw [e, gb_bd_s]
            exact ⟨o, rfl, h1, h2, findNow_82 hN hh.1 e⟩
    · rw [act_n h3 hX]
      have h012 : k = 0 ∨ k = 1 ∨ k = 2 := by omega
      rcases h012 with rfl | rfl | rfl
      · have e : f_X11_lackNow sh g x = some (g, -2) := by
          unfold f_X11_lackNow
          rw [isGood_f hn hm.1 hX, bf]
        rw [if_pos (by decide), e, gb_bd_s]
        exact ⟨-2, rfl, by decide⟩
      · have e : f_X11_findNow sh g x = some (g, -2) := by
          unfold f_X11_findNow
          rw [isGood_f hn hm.1 hX, bf]
        rw [if_neg (by decide), if_pos (by decide), e, gb_bd_s]
        exact ⟨-2, rfl, by decide⟩
      · rw [if_neg (by decide), if_neg (by decide), if_pos (by decide), hy rfl]
        by_cases hY : im 0 99 y
        · have e : f_X11_weighNow sh g x y = some (g, -2) := by
            unfold f_X11_weighNow
            rw [in_t hY rfl rfl, bt, isGood_f hn hm.1 hX, bf]
          rw [e, gb_bd_s]
          exact ⟨-2, rfl, by decide⟩
        · have e : f_X11_weighNow sh g x y = some (g, -1) := by
            unfold f_X11_weighNow
            rw [in_f hY rfl rfl, bf]
          rw [e, gb_bd_s]
          exact ⟨-1, rfl, by decide⟩
