/-! ===== lack, find, weigh ===== -/
theorem cvH_fr {g g' : gb_G} {b n : Nat} {H : ms_H} (h : cvH g b H n) (e : ∀ c k, b ≤ c ∧ c ≤ b + 4 → eqc g g' c k) : cvH g' b H n := by
  obtain ⟨h0, h1⟩ := h
  refine ⟨(e b 0 (by omega)).1.trans h0, fun k hk => ?_⟩
  obtain ⟨a1, a2, a3, a4⟩ := h1 k hk
  exact ⟨(e _ _ (by omega)).1.trans a1, fun q => (e _ _ (by omega)).1.trans (a2 q), fun q => (e _ _ (by omega)).1.trans (a3 q), fun q i hi => (e _ _ (by omega)).1.trans (a4 q i hi)⟩
theorem mvH_fr {g g' : gb_G} {n : Nat} {H : ms_H} (hN : H.1 ≤ 16) (h : mvH g H n) (e : ∀ c k, (c = 77 ∧ k = 8) ∨ c = 83 ∨ (c = 82 ∧ k < 432) → eqc g g' c k) : mvH g' H n := by
  obtain ⟨h0, h1⟩ := h
  refine ⟨(e 77 8 (by omega)).1.trans h0, fun k hk => ?_⟩
  obtain ⟨a1, a2⟩ := h1 k hk
  exact ⟨(e _ _ (by omega)).1.trans a1, fun i hi q => (e _ _ (by omega)).1.trans (a2 i hi q)⟩
theorem gI_mk {sh : List gb_Sh} {g g2 : gb_G} {β' : ms_B} {H' : ms_H} (hI : gb_I sh g) (F : ∀ c k, c = 6 ∨ c = 12 ∨ c = 13 ∨ c = 14 ∨ (18 ≤ c ∧ c ≤ 32) ∨ 105 ≤ c ∨ (c = 77 ∧ (k = 20 ∨ k = 55)) ∨ c = 80 ∨ c = 81 ∨ (92 ≤ c ∧ c ≤ 94) ∨ c = 102 ∨ c = 104 → eqc g g2 c k) (hM : iM g2) (hR : iR g2) (hT : iT g2) (hw : wfB β') (hc : cvB sh g2 1 β') (hm : mvB (g2.1 79) β') (hu1 : cvH g2 33 H' (bN β')) (hu2 : mvH g2 H' (bN β')) (hu3 : wfH H' (bN β') (cur β')) : gb_I sh g2 := by
  obtain ⟨hS, ⟨h1, h2⟩, h3, h4, h5, h6, h7, h8, β, h9, h10⟩ := hI
  exact ⟨hS, ⟨mvC_fr h1 fun c k q => F c k (by omega), (F 77 20 (by omega)).1.trans h2⟩, iF_fr h3 fun c k q => F c k (by omega), hM, hR, hT, iD_fr h7 fun c k q => F c k (by omega), iI_fr h8 fun c k q => F c k (by omega), β', ⟨hw, hc, hm⟩, of_U hw hm hu1 hu2 hu3⟩
theorem sSet_e {β : ms_B} {p : Nat} {v : Int32} : sSet β p v p = v := if_pos rfl
theorem sSet_n {β : ms_B} {p i : Nat} {v : Int32} (h : ¬ i = p) : sSet β p v i = cur β i := if_neg h
theorem wfC_set {β : ms_B} {p a : Nat} {v : Int32} (hw : wfB β) (ha : a < bN β) (hp : (p = 3 + a ∧ im 1 12 v) ∨ (p = 11 + a ∧ im 0 1 v) ∨ (p = 19 + a ∧ im 0 99 v)) : wfC (bN β) (sSet β p v) := by
  have hn := hw.1
  obtain ⟨c1, c2, c3, c4⟩ := wfC_cur hw
  have hp3 : 3 ≤ p := by
    rcases hp with hp | hp | hp <;> omega
  refine ⟨fun i hi => ⟨?_, ?_, ?_⟩, ?_, ?_, ?_⟩
  · by_cases e : 3 + i = p
    · rw [e, sSet_e]
      rcases hp with hp | hp | hp
      · exact hp.2
      · omega
      · omega
    · rw [sSet_n e]; exact (c1 i hi).1
  · by_cases e : 11 + i = p
    · rw [e, sSet_e]
      rcases hp with hp | hp | hp
      · omega
      · exact hp.2
      · omega
    · rw [sSet_n e]; exact (c1 i hi).2.1
  · by_cases e : 19 + i = p
    · rw [e, sSet_e]
      rcases hp with hp | hp | hp
      · omega
      · omega
      · exact hp.2
    · rw [sSet_n e]; exact (c1 i hi).2.2
  · rw [sSet_n (by omega)]; exact c2
  · rw [sSet_n (by omega)]; exact c3
  · rw [sSet_n (by omega)]; exact c4
theorem im_01 {v : Int32} (h : im 0 1 v) : v = 0 ∨ v = 1 := by
  obtain ⟨i, hi, e⟩ := o_of (n := 2) h
  have : i = 0 ∨ i = 1 := by omega
  rcases this with rfl | rfl
  · exact Or.inl e
  · exact Or.inr e
theorem wfh_la {β : ms_B} {j lk : Nat} (hw : wfB β) (hj : j < bN β) (hl : lk ≤ 1) (hd : ¬ bT β j 5 = Int32.ofNat lk) : wfh (1 - lk) j (bN β) (cur β) (sSet β (11 + j) (Int32.ofNat lk)) := by
  have hn := hw.1
  have h5 := im_01 (hw.2.2.2.2.2.2.1 j hj).2.2.2.2.2.1
  refine ⟨by omega, fun _ => hj, fun i hi q1 q2 q3 => ?_, fun q => ?_, fun q => ?_, fun q => by omega, fun q => by omega⟩
  · rw [sSet_n (fun e => q1 ⟨by omega, e⟩)]
  · have e : lk = 1 := by omega
    subst e
    rw [cur_la (by omega), sSet_e]
    exact ⟨h5.resolve_right hd, rfl⟩
  · have e : lk = 0 := by omega
    subst e
    rw [cur_la (by omega), sSet_e]
    exact ⟨h5.resolve_left hd, rfl⟩
theorem wfh_we {β : ms_B} {j : Nat} {v : Int32} (hw : wfB β) (hj : j < bN β) : wfh 2 j (bN β) (cur β) (sSet β (19 + j) v) := by
  have hn := hw.1
  refine ⟨by omega, fun _ => hj, fun i hi q1 q2 q3 => ?_, fun q => by omega, fun q => by omega, fun q => ?_, fun q => by omega⟩
  · rw [sSet_n (fun e => q2 ⟨rfl, e⟩)]
  · rw [cur_we]; exact (hw.2.2.2.2.2.2.1 j hj).2.2.1
theorem chl_c {sh : List gb_Sh} {β : ms_B} {H : ms_H} {g : gb_G} {j lk : Nat} (hw : wfB β) (hc : cvB sh g 1 β) (hh : cvH g 33 H (bN β)) (hN : H.1 ≤ 16) (hj : j < bN β) (hl : lk ≤ 1) (hd : ¬ bT β j 5 = Int32.ofNat lk) : gb_T (f_X10_changeLacking sh g (Int32.ofNat j) (Int32.ofNat lk)) (fun o => cvB sh o.1 1 (bCur β (sSet β (11 + j) (Int32.ofNat lk))) ∧ cvH o.1 33 (hPush H (1 - lk) j (cur β)) (bN β) ∧ o.2 = ms_sum (fun i => bT (bCur β (sSet β (11 + j) (Int32.ofNat lk))) i 5) (bN β)) := by
  have hn := hw.1
  have hw2 : wfB (bCur β (sSet β (11 + j) (Int32.ofNat lk))) := wfB_cur hw (wfC_set hw hj (Or.inr (Or.inl ⟨rfl, by rw [im, o_int (by omega)]; omega⟩)))
  have K : gb_T (f_X10_changeLacking_44 sh g (Int32.ofNat j) (Int32.ofNat lk) (Int32.ofNat (1 - lk))) (fun o => cvB sh o.1 1 (bCur β (sSet β (11 + j) (Int32.ofNat lk))) ∧ cvH o.1 33 (hPush H (1 - lk) j (cur β)) (bN β) ∧ o.2 = ms_sum (fun i => bT (bCur β (sSet β (11 + j) (Int32.ofNat lk))) i 5) (bN β)) := by
    unfold f_X10_changeLacking_44
    obtain ⟨g1, e1, h1⟩ := rem_c (sh := sh) (K := 1 - lk) (j := j) hw hc hh hN (by omega) (fun _ => ⟨hj, rfl⟩)
    have F1 := w_X3_remember e1
    refine gb_T.bs e1 ?_
    have hc1 : cvB sh g1 1 β := cvB_fr hc fun c k q => F1 c k (by omega)
    rw [wr_t (y := 5) (j := 5) hn hc1.1 rfl hj rfl (by omega), gb_bd_s]
    have hc2 := wr_cur (v := Int32.ofNat lk) (by omega) hw hc1 hj (t := 5) (p := 11 + j) (by omega)
    rw [lc hw2 hc2, gb_bd_s]
    exact ⟨_, rfl, hc2, cvH_fr h1 fun c k q => ⟨pi_n (by omega), rfl, rfl⟩, rfl⟩
  unfold f_X10_changeLacking
  rw [has_t hn hc.1 (o_im _ hj (by omega)), bt]
  simp only []
  rw [rd_t (y := 5) (j := 5) hw hc rfl hj rfl (by omega), gb_bd_s]
  simp only []
  rw [if_neg hd]
  have hl' : lk = 0 ∨ lk = 1 := by omega
  rcases hl' with rfl | rfl
  · rw [if_neg (by decide)]; exact K
  · rw [if_pos (by decide)]; exact K
theorem chw_c {sh : List gb_Sh} {β : ms_B} {H : ms_H} {g : gb_G} {j : Nat} {v : Int32} (hw : wfB β) (hc : cvB sh g 1 β) (hh : cvH g 33 H (bN β)) (hN : H.1 ≤ 16) (hj : j < bN β) (hv : im 0 99 v) : gb_T (f_X10_changeWeight sh g (Int32.ofNat j) v) (fun o => cvB sh o.1 1 (bCur β (sSet β (19 + j) v)) ∧ cvH o.1 33 (hPush H 2 j (cur β)) (bN β) ∧ o.2 = bT β j 2) := by
  have hn := hw.1
  unfold f_X10_changeWeight
  rw [within_t hv rfl rfl, bt, has_t hn hc.1 (o_im _ hj (by omega)), bt]
  obtain ⟨g1, e1, h1⟩ := rem_c (sh := sh) (K := 2) (j := j) hw hc hh hN (by omega) (fun _ => ⟨hj, rfl⟩)
  have F1 := w_X3_remember e1
  refine gb_T.bs e1 ?_
  have hc1 : cvB sh g1 1 β := cvB_fr hc fun c k q => F1 c k (by omega)
  rw [rd_t (y := 2) (j := 2) hw hc1 rfl hj rfl (by omega), gb_bd_s]
  simp only []
  rw [wr_t (y := 2) (j := 2) hn hc1.1 rfl hj rfl (by omega), gb_bd_s]
  exact ⟨_, rfl, wr_cur (by omega) hw hc1 hj (t := 2) (p := 19 + j) (by omega), cvH_fr h1 fun c k q => ⟨pi_n (by omega), rfl, rfl⟩, rfl⟩
/-! the reference -/
theorem lackNow_m {sh : List gb_Sh} {β : ms_B} {H : ms_H} {g : gb_G} {j : Nat} (hw : wfB β) (hm : mvB (g.1 79) β) (hh : mvH g H (bN β)) (hN : H.1 ≤ 16) (hj : j < bN β) (hd : ¬ bT β j 5 = Int32.ofNat 1) : gb_T (f_X11_lackNow sh g (Int32.ofNat j)) (fun o => mvB (o.1.1 79) (bCur β (sSet β (11 + j) (Int32.ofNat 1))) ∧ mvH o.1 (hPush H 0 j (cur β)) (bN β) ∧ o.2 = ms_sum (fun i => bT (bCur β (sSet β (11 + j) (Int32.ofNat 1))) i 5) (bN β)) := by
  have hn := hw.1
  have hw2 : wfB (bCur β (sSet β (11 + j) (Int32.ofNat 1))) := wfB_cur hw (wfC_set hw hj (Or.inr (Or.inl ⟨rfl, by rw [im]; decide⟩)))
  unfold f_X11_lackNow
  rw [isGood_t hn hm.1 (o_im _ hj (by omega)), bt, show (16 : Int32) = Int32.ofNat 16 from rfl, o_add, gb_ck_s (o_in (by omega) (by omega)), o_cl (by omega), (hm.2.1 j hj).2.2.2.2.2.1, if_neg (show ¬ bT β j 5 = 1 from hd)]
  obtain ⟨g1, e1, h1⟩ := rem_m (sh := sh) (K := 0) (j := j) hw hm hh hN
  have F1 := w_X11_remember e1
  refine gb_T.bs e1 ?_
  rw [gb_ck_s (o_in (by omega) (by omega)), gb_let_s]
  have hm1 : mvB (g1.1 79) β := mvB_fr hm hw fun k _ => (F1 79 k (by omega)).1
  have hm2 := wr_curm (g := g1) (v := Int32.ofNat 1) hw hm1 (p := 11 + j) (by unfold ms_rl; omega)
  rw [show 5 + (11 + j) = 16 + j by omega] at hm2
  have hl := lo (sh := sh) hw2 hm2
  have hc16 : (16 : Nat) + j < 2147483648 := by omega
  refine gb_T.bs hl ?_
  refine ⟨_, rfl, hm2, mvH_fr ?_ h1 fun c k q => ⟨pi_n (by omega), rfl, rfl⟩, rfl⟩
  unfold hPush hAdd hDrop
  split <;> simp <;> omega
theorem findNow_m {sh : List gb_Sh} {β : ms_B} {H : ms_H} {g : gb_G} {j : Nat} (hw : wfB β) (hm : mvB (g.1 79) β) (hh : mvH g H (bN β)) (hN : H.1 ≤ 16) (hj : j < bN β) (hd : ¬ bT β j 5 = Int32.ofNat 0) : gb_T (f_X11_findNow sh g (Int32.ofNat j)) (fun o => mvB (o.1.1 79) (bCur β (sSet β (11 + j) (Int32.ofNat 0))) ∧ mvH o.1 (hPush H 1 j (cur β)) (bN β) ∧ o.2 = ms_sum (fun i => bT (bCur β (sSet β (11 + j) (Int32.ofNat 0))) i 5) (bN β)) := by
  have hn := hw.1
  have hw2 : wfB (bCur β (sSet β (11 + j) (Int32.ofNat 0))) := wfB_cur hw (wfC_set hw hj (Or.inr (Or.inl ⟨rfl, by rw [im]; decide⟩)))
  unfold f_X11_findNow
  rw [isGood_t hn hm.1 (o_im _ hj (by omega)), bt, show (16 : Int32) = Int32.ofNat 16 from rfl, o_add, gb_ck_s (o_in (by omega) (by omega)), o_cl (by omega), (hm.2.1 j hj).2.2.2.2.2.1, if_neg (show ¬ bT β j 5 = 0 from hd)]
  obtain ⟨g1, e1, h1⟩ := rem_m (sh := sh) (K := 1) (j := j) hw hm hh hN
  have F1 := w_X11_remember e1
  refine gb_T.bs e1 ?_
  rw [gb_ck_s (o_in (by omega) (by omega)), gb_let_s]
  have hm1 : mvB (g1.1 79) β := mvB_fr hm hw fun k _ => (F1 79 k (by omega)).1
  have hm2 := wr_curm (g := g1) (v := Int32.ofNat 0) hw hm1 (p := 11 + j) (by unfold ms_rl; omega)
  rw [show 5 + (11 + j) = 16 + j by omega] at hm2
  have hl := lo (sh := sh) hw2 hm2
  have hc16 : (16 : Nat) + j < 2147483648 := by omega
  refine gb_T.bs hl ?_
  refine ⟨_, rfl, hm2, mvH_fr ?_ h1 fun c k q => ⟨pi_n (by omega), rfl, rfl⟩, rfl⟩
  unfold hPush hAdd hDrop
  split <;> simp <;> omega
theorem weighNow_m {sh : List gb_Sh} {β : ms_B} {H : ms_H} {g : gb_G} {j : Nat} {v : Int32} (hw : wfB β) (hm : mvB (g.1 79) β) (hh : mvH g H (bN β)) (hN : H.1 ≤ 16) (hj : j < bN β) (hv : im 0 99 v) : gb_T (f_X11_weighNow sh g (Int32.ofNat j) v) (fun o => mvB (o.1.1 79) (bCur β (sSet β (19 + j) v)) ∧ mvH o.1 (hPush H 2 j (cur β)) (bN β) ∧ o.2 = bT β j 2) := by
  have hn := hw.1
  unfold f_X11_weighNow
  rw [in_t hv rfl rfl, bt, isGood_t hn hm.1 (o_im _ hj (by omega)), bt]
  obtain ⟨g1, e1, h1⟩ := rem_m (sh := sh) (K := 2) (j := j) hw hm hh hN
  have F1 := w_X11_remember e1
  refine gb_T.bs e1 ?_
  rw [show (24 : Int32) = Int32.ofNat 24 from rfl, o_add, gb_ck_s (o_in (by omega) (by omega)), gb_ck_s (o_in (by omega) (by omega)), gb_let_s, o_cl (by omega)]
  have hm1 : mvB (g1.1 79) β := mvB_fr hm hw fun k _ => (F1 79 k (by omega)).1
  have hm2 := wr_curm (g := g1) (v := v) hw hm1 (p := 19 + j) (by unfold ms_rl; omega)
  rw [show 5 + (19 + j) = 24 + j by omega] at hm2
  refine ⟨_, rfl, hm2, mvH_fr ?_ h1 fun c k q => ⟨pi_n (by omega), rfl, rfl⟩, (hm1.2.1 j hj).2.2.1⟩
  unfold hPush hAdd hDrop
  split <;> simp <;> omega
/-- both grant, behind a change of basket and history: nothing else is kept otherwise -/
theorem ok_core {sh : List gb_Sh} {g a b : gb_G} {β' : ms_B} {H' : ms_H} {W1 W2 : Nat → Nat → Prop} (hI : gb_I sh g) (hw : wfB β') (hu : wfH H' (bN β') (cur β')) (F1 : gb_Fr W1 g a) (s1 : ∀ c k, W1 c k → c < 77 ∧ ¬ ((c = 0 ∧ 15 ≤ k ∧ k ≤ 17) ∨ c = 6 ∨ c = 12 ∨ c = 13 ∨ c = 14 ∨ (18 ≤ c ∧ c ≤ 32) ∨ (c = 43 ∧ k = 1) ∨ c = 44 ∨ c = 76))
    (F2 : gb_Fr W2 (gb_pi (gb_pi a 0 18 0) 77 0 0) b) (s2 : ∀ c k, W2 c k → (77 ≤ c ∧ c < 105) ∧ ¬ ((c = 77 ∧ (k = 11 ∨ k = 13 ∨ k = 18 ∨ k = 20 ∨ k = 51 ∨ k = 55)) ∨ c = 78 ∨ c = 80 ∨ c = 81 ∨ c = 86 ∨ (92 ≤ c ∧ c ≤ 94) ∨ c = 102 ∨ c = 104))
    (hc : cvB sh a 1 β') (hh : cvH a 33 H' (bN β')) (hm : mvB (b.1 79) β') (hhm : mvH b H' (bN β')) : gb_I sh (gb_pi b 77 1 0) := by
  have E : ∀ c k, ¬ W1 c k → ¬ W2 c k → ¬ ((c = 0 ∧ k = 18) ∨ (c = 77 ∧ (k = 0 ∨ k = 1))) → eqc g (gb_pi b 77 1 0) c k := fun c k q1 q2 q3 => by
    have z1 := F1 c k q1
    have z2 := F2 c k q2
    exact ⟨(pi_n (by omega)).trans (z2.1.trans ((pi_n (by omega)).trans ((pi_n (by omega)).trans z1.1))), z2.2.1.trans z1.2.1, z2.2.2.trans z1.2.2⟩
  have n1 : ∀ c k, (77 ≤ c ∨ (c = 0 ∧ 15 ≤ k ∧ k ≤ 17) ∨ c = 6 ∨ c = 12 ∨ c = 13 ∨ c = 14 ∨ (18 ≤ c ∧ c ≤ 32) ∨ (c = 43 ∧ k = 1) ∨ c = 44 ∨ c = 76) → ¬ W1 c k := fun c k q w => by have := s1 c k w; omega
  have n2 : ∀ c k, (c < 77 ∨ 105 ≤ c ∨ (c = 77 ∧ (k = 11 ∨ k = 13 ∨ k = 18 ∨ k = 20 ∨ k = 51 ∨ k = 55)) ∨ c = 78 ∨ c = 80 ∨ c = 81 ∨ c = 86 ∨ (92 ≤ c ∧ c ≤ 94) ∨ c = 102 ∨ c = 104) → ¬ W2 c k := fun c k q w => by have := s2 c k w; omega
  have EA : ∀ c k, (c < 77 ∨ 105 ≤ c) → ¬ (c = 0 ∧ k = 18) → eqc a (gb_pi b 77 1 0) c k := fun c k q1 q3 => by
    have z2 := F2 c k (n2 c k (by omega))
    exact ⟨(pi_n (by omega)).trans (z2.1.trans ((pi_n (by omega)).trans (pi_n (by omega)))), z2.2.1, z2.2.2⟩
  have hI0 := hI
  obtain ⟨hS, ⟨h1, h2⟩, h3, h4, h5, h6, h7, h8, β, h9, h10⟩ := hI0
  refine gI_mk (β' := β') (H' := H') hI (fun c k q => E c k (n1 c k (by omega)) (n2 c k (by omega)) (by omega)) ?_ (iR_fr h5 fun c k q => E c k (n1 c k (by omega)) (n2 c k (by omega)) (by omega)) (iT_fr h6 fun c k q => E c k (n1 c k (by omega)) (n2 c k (by omega)) (by omega)) hw (cvB_fr hc fun c k q => EA c k (by omega) (by omega)) (mvB_fr hm hw fun k _ => pi_n (by omega)) (cvH_fr hh fun c k q => EA c k (by omega) (by omega)) (mvH_fr hu.1 hhm fun c k q => ⟨pi_n (by omega), rfl, rfl⟩) hu
  have x : ∀ c k c' k', g.1 c k = g.1 c' k' → eqc g (gb_pi b 77 1 0) c k → eqc g (gb_pi b 77 1 0) c' k' → (gb_pi b 77 1 0).1 c k = (gb_pi b 77 1 0).1 c' k' := fun c k c' k' e1 e2 e3 => e2.1.trans (e1.trans e3.1.symm)
  refine ⟨x 0 15 77 18 h4.1 (E _ _ (n1 _ _ (by omega)) (n2 _ _ (by omega)) (by omega)) (E _ _ (n1 _ _ (by omega)) (n2 _ _ (by omega)) (by omega)), x 0 16 77 11 h4.2.1 (E _ _ (n1 _ _ (by omega)) (n2 _ _ (by omega)) (by omega)) (E _ _ (n1 _ _ (by omega)) (n2 _ _ (by omega)) (by omega)), x 0 17 77 51 h4.2.2.1 (E _ _ (n1 _ _ (by omega)) (n2 _ _ (by omega)) (by omega)) (E _ _ (n1 _ _ (by omega)) (n2 _ _ (by omega)) (by omega)), ?_⟩
  rw [pi_e, pi_n (by omega), (F2 0 18 (n2 _ _ (by omega))).1, pi_n (by omega), pi_e]
theorem ok_BH {sh : List gb_Sh} {g : gb_G} {β' : ms_B} {H' : ms_H} {f1 : Option (gb_G × Int32)} {f2 : gb_G → Option (gb_G × Int32)} {W1 W2 : Nat → Nat → Prop} (v : Int32) (hv : 0 ≤ v.toInt) (hI : gb_I sh g) (hw : wfB β') (hu : wfH H' (bN β') (cur β'))
    (h1 : gb_T f1 (fun o => cvB sh o.1 1 β' ∧ cvH o.1 33 H' (bN β') ∧ o.2 = v)) (w1 : ∀ o, f1 = some o → gb_Fr W1 g o.1) (s1 : ∀ c k, W1 c k → c < 77 ∧ ¬ ((c = 0 ∧ 15 ≤ k ∧ k ≤ 17) ∨ c = 6 ∨ c = 12 ∨ c = 13 ∨ c = 14 ∨ (18 ≤ c ∧ c ≤ 32) ∨ (c = 43 ∧ k = 1) ∨ c = 44 ∨ c = 76))
    (h2 : ∀ g1, (∀ c k, 77 ≤ c → c < 105 → ¬ (c = 77 ∧ k = 0) → eqc g g1 c k) → gb_T (f2 g1) (fun o => mvB (o.1.1 79) β' ∧ mvH o.1 H' (bN β') ∧ o.2 = v)) (w2 : ∀ g1 o, f2 g1 = some o → gb_Fr W2 g1 o.1) (s2 : ∀ c k, W2 c k → (77 ≤ c ∧ c < 105) ∧ ¬ ((c = 77 ∧ (k = 11 ∨ k = 13 ∨ k = 18 ∨ k = 20 ∨ k = 51 ∨ k = 55)) ∨ c = 78 ∨ c = 80 ∨ c = 81 ∨ c = 86 ∨ (92 ≤ c ∧ c ≤ 94) ∨ c = 102 ∨ c = 104)) :
    ∃ o1 o2 : gb_G × Int32, gb_bd f1 (fun r => gb_bd (f_X10_settle sh r.1 r.2) fun r => some (r.1, r.2)) = some o1 ∧ gb_let (gb_pi o1.1 77 0 0) (fun g1 => gb_bd (f2 g1) fun r => gb_bd (f_X11_tell sh r.1 r.2) fun r => some (r.1, r.2)) = some o2 ∧ o1.2 = o2.2 ∧ gb_I sh o2.1 := by
  obtain ⟨⟨a, va⟩, e1, hc, hh, ev1⟩ := h1
  have F1 : gb_Fr W1 g a := w1 _ e1
  have ev1' : va = v := ev1
  subst ev1'
  obtain ⟨⟨b, vb⟩, e2, hm, hhm, ev2⟩ := h2 (gb_pi (gb_pi a 0 18 0) 77 0 0) fun c k q1 q2 q3 => by
    have z := F1 c k (fun w => by have := (s1 c k w).1; omega)
    exact ⟨(pi_n (by omega)).trans ((pi_n (by omega)).trans z.1), z.2.1, z.2.2⟩
  have F2 := w2 _ _ e2
  have ev2' : vb = va := ev2
  subst ev2'
  refine ⟨(gb_pi a 0 18 0, vb), (gb_pi b 77 1 0, vb), ?_, ?_, rfl, ok_core hI hw hu F1 s1 F2 s2 hc hh hm hhm⟩
  · rw [e1, gb_bd_s]; show gb_bd (f_X10_settle sh a vb) _ = _; rw [st_p hv]; rfl
  · rw [gb_let_s]
    show gb_bd (f2 (gb_pi (gb_pi a 0 18 0) 77 0 0)) _ = _
    rw [e2, gb_bd_s]
    show gb_bd (f_X11_tell sh b vb) _ = _
    rw [te_p hv]; rfl
theorem eq79 {g g1 : gb_G} (e : ∀ c k, 77 ≤ c → c < 105 → ¬ (c = 77 ∧ k = 0) → eqc g g1 c k) : g1.1 79 = g.1 79 := funext fun k => (e 79 k (by omega) (by omega) (by omega)).1
theorem mvH_e {g g1 : gb_G} {H : ms_H} {n : Nat} (hN : H.1 ≤ 16) (h : mvH g H n) (e : ∀ c k, 77 ≤ c → c < 105 → ¬ (c = 77 ∧ k = 0) → eqc g g1 c k) : mvH g1 H n := mvH_fr hN h fun c k q => e c k (by omega) (by omega) (by omega)
set_option maxRecDepth 100000 in
theorem p_lack : ps_lack gb_I := by
  intro sh g x1 hI
  obtain ⟨β, ⟨hw, hc, hm⟩, hU⟩ := hI.2.2.2.2.2.2.2.2
  obtain ⟨H, hh, hhm, hwH⟩ := U_of hw hm hU
  have hn := hw.1
  have hN := hwH.1
  by_cases h1 : im 0 ((bN β : Int) - 1) x1
  · obtain ⟨j, hj, rfl⟩ := o_of h1
    by_cases hd : bT β j 5 = Int32.ofNat 1
    · refine rf_b (fun g => f_X11_lack sh g (Int32.ofNat j)) (-3) 3 (by omega) rfl (by decide) hI ?_ fun g1 e1 _ _ => ?_
      · unfold f_X10_lack f_X10_changeLacking
        rw [has_t hn hc.1 h1, bt]
        simp only []
        rw [rd_t (y := 5) (j := 5) hw hc rfl hj rfl (by omega), gb_bd_s]
        simp only []
        rw [if_pos (show bT β j 5 = 1 from hd), gb_bd_s]
        simp only []
        rw [st_n 3 (by omega) rfl (by decide), rf 3 (by omega) rfl]
      · show f_X11_lack sh g1 _ = _
        unfold f_X11_lack f_X11_lackNow
        rw [gb_let_s, isGood_t (g := gb_pi g1 77 0 0) (n := bN β) hn (by rw [r79, e1]; exact hm.1) h1, bt, show (16 : Int32) = Int32.ofNat 16 from rfl, o_add, gb_ck_s (o_in (by omega) (by omega)), o_cl (by omega), r79, e1, (hm.2.1 j hj).2.2.2.2.2.1, if_pos (show bT β j 5 = 1 from hd), gb_bd_s]
    · have hs : wfC (bN β) (sSet β (11 + j) (Int32.ofNat 1)) := wfC_set hw hj (Or.inr (Or.inl ⟨rfl, by rw [im]; decide⟩))
      have hw2 := wfB_cur hw hs
      exact ok_BH (f2 := fun g1 => f_X11_lackNow sh g1 (Int32.ofNat j)) (ms_sum (fun i => bT (bCur β (sSet β (11 + j) (Int32.ofNat 1))) i 5) (bN β)) (ms_sum_01 (show bN β ≤ 1000 by omega) fun i hi => (hw2.2.2.2.2.2.2.1 i hi).2.2.2.2.2.1).1 hI hw2 (by rw [cur_curf]; exact wfH_push hwH (wfh_la (lk := 1) hw hj (by omega) hd)) (chl_c (lk := 1) hw hc hh hN hj (by omega) hd) (fun o => w_X10_changeLacking) (fun c k q => by omega) (fun g1 e => lackNow_m hw (by rw [eq79 e]; exact hm) (mvH_e hN hhm e) hN hj hd) (fun g1 o => w_X11_lackNow) (fun c k q => by omega)
  · refine rf_b (fun g => f_X11_lack sh g x1) (-2) 2 (by omega) rfl (by decide) hI ?_ fun g1 e1 _ _ => ?_
    · unfold f_X10_lack f_X10_changeLacking
      rw [has_f hn hc.1 h1, bf, gb_bd_s]
      simp only []
      rw [st_n 2 (by omega) rfl (by decide), rf 2 (by omega) rfl]
    · show f_X11_lack sh g1 _ = _
      unfold f_X11_lack f_X11_lackNow
      rw [gb_let_s, isGood_f (g := gb_pi g1 77 0 0) (n := bN β) hn (by rw [r79, e1]; exact hm.1) h1, bf, gb_bd_s]
set_option maxRecDepth 100000 in
theorem p_find : ps_find gb_I := by
  intro sh g x1 hI
  obtain ⟨β, ⟨hw, hc, hm⟩, hU⟩ := hI.2.2.2.2.2.2.2.2
  obtain ⟨H, hh, hhm, hwH⟩ := U_of hw hm hU
  have hn := hw.1
  have hN := hwH.1
  by_cases h1 : im 0 ((bN β : Int) - 1) x1
  · obtain ⟨j, hj, rfl⟩ := o_of h1
    by_cases hd : bT β j 5 = Int32.ofNat 0
    · refine rf_b (fun g => f_X11_find sh g (Int32.ofNat j)) (-3) 3 (by omega) rfl (by decide) hI ?_ fun g1 e1 _ _ => ?_
      · unfold f_X10_find f_X10_changeLacking
        rw [has_t hn hc.1 h1, bt]
        simp only []
        rw [rd_t (y := 5) (j := 5) hw hc rfl hj rfl (by omega), gb_bd_s]
        simp only []
        rw [if_pos (show bT β j 5 = 0 from hd), gb_bd_s]
        simp only []
        rw [st_n 3 (by omega) rfl (by decide), rf 3 (by omega) rfl]
      · show f_X11_find sh g1 _ = _
        unfold f_X11_find f_X11_findNow
        rw [gb_let_s, isGood_t (g := gb_pi g1 77 0 0) (n := bN β) hn (by rw [r79, e1]; exact hm.1) h1, bt, show (16 : Int32) = Int32.ofNat 16 from rfl, o_add, gb_ck_s (o_in (by omega) (by omega)), o_cl (by omega), r79, e1, (hm.2.1 j hj).2.2.2.2.2.1, if_pos (show bT β j 5 = 0 from hd), gb_bd_s]
    · have hs : wfC (bN β) (sSet β (11 + j) (Int32.ofNat 0)) := wfC_set hw hj (Or.inr (Or.inl ⟨rfl, by rw [im]; decide⟩))
      have hw2 := wfB_cur hw hs
      exact ok_BH (f2 := fun g1 => f_X11_findNow sh g1 (Int32.ofNat j)) (ms_sum (fun i => bT (bCur β (sSet β (11 + j) (Int32.ofNat 0))) i 5) (bN β)) (ms_sum_01 (show bN β ≤ 1000 by omega) fun i hi => (hw2.2.2.2.2.2.2.1 i hi).2.2.2.2.2.1).1 hI hw2 (by rw [cur_curf]; exact wfH_push hwH (wfh_la (lk := 0) hw hj (by omega) hd)) (chl_c (lk := 0) hw hc hh hN hj (by omega) hd) (fun o => w_X10_changeLacking) (fun c k q => by omega) (fun g1 e => findNow_m hw (by rw [eq79 e]; exact hm) (mvH_e hN hhm e) hN hj hd) (fun g1 o => w_X11_findNow) (fun c k q => by omega)
  · refine rf_b (fun g => f_X11_find sh g x1) (-2) 2 (by omega) rfl (by decide) hI ?_ fun g1 e1 _ _ => ?_
    · unfold f_X10_find f_X10_changeLacking
      rw [has_f hn hc.1 h1, bf, gb_bd_s]
      simp only []
      rw [st_n 2 (by omega) rfl (by decide), rf 2 (by omega) rfl]
    · show f_X11_find sh g1 _ = _
      unfold f_X11_find f_X11_findNow
      rw [gb_let_s, isGood_f (g := gb_pi g1 77 0 0) (n := bN β) hn (by rw [r79, e1]; exact hm.1) h1, bf, gb_bd_s]
set_option maxRecDepth 100000 in
theorem p_weigh : ps_weigh gb_I := by
  intro sh g x1 x2 hI
  obtain ⟨β, ⟨hw, hc, hm⟩, hU⟩ := hI.2.2.2.2.2.2.2.2
  obtain ⟨H, hh, hhm, hwH⟩ := U_of hw hm hU
  have hn := hw.1
  have hN := hwH.1
  by_cases h2 : im 0 99 x2
  · by_cases h1 : im 0 ((bN β : Int) - 1) x1
    · obtain ⟨j, hj, rfl⟩ := o_of h1
      have hs : wfC (bN β) (sSet β (19 + j) x2) := wfC_set hw hj (Or.inr (Or.inr ⟨rfl, h2⟩))
      have hw2 := wfB_cur hw hs
      exact ok_BH (f2 := fun g1 => f_X11_weighNow sh g1 (Int32.ofNat j) x2) (bT β j 2) (hw.2.2.2.2.2.2.1 j hj).2.2.1.1 hI hw2 (by rw [cur_curf]; exact wfH_push hwH (wfh_we hw hj)) (chw_c hw hc hh hN hj h2) (fun o => w_X10_changeWeight) (fun c k q => by omega) (fun g1 e => weighNow_m hw (by rw [eq79 e]; exact hm) (mvH_e hN hhm e) hN hj h2) (fun g1 o => w_X11_weighNow) (fun c k q => by omega)
    · refine rf_b (fun g => f_X11_weigh sh g x1 x2) (-2) 2 (by omega) rfl (by decide) hI ?_ fun g1 e1 _ _ => ?_
      · unfold f_X10_weigh f_X10_changeWeight
        rw [within_t h2 rfl rfl, bt, has_f hn hc.1 h1, bf, gb_bd_s]
        simp only []
        rw [st_n 2 (by omega) rfl (by decide), rf 2 (by omega) rfl]
      · show f_X11_weigh sh g1 _ _ = _
        unfold f_X11_weigh f_X11_weighNow
        rw [gb_let_s, in_t h2 rfl rfl, bt, isGood_f (g := gb_pi g1 77 0 0) (n := bN β) hn (by rw [r79, e1]; exact hm.1) h1, bf, gb_bd_s]
  · refine rf_b (fun g => f_X11_weigh sh g x1 x2) (-1) 1 (by omega) rfl (by decide) hI ?_ fun g1 e1 _ _ => ?_
    · unfold f_X10_weigh f_X10_changeWeight
      rw [within_f h2 rfl rfl, bf, gb_bd_s]
      simp only []
      rw [st_n 1 (by omega) rfl (by decide), rf 1 (by omega) rfl]
    · show f_X11_weigh sh g1 _ _ = _
      unfold f_X11_weigh f_X11_weighNow
      rw [gb_let_s, in_f h2 rfl rfl, bf, gb_bd_s]
