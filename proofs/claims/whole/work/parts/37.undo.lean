/-! ===== undo ===== -/
theorem cvB_curc {sh : List gb_Sh} {g : gb_G} {b : Nat} {β : ms_B} {s s' : Nat → Int32} (hc : cvB sh g b (bCur β s)) (e : ∀ i, ms_rl (bN β) i → s' i = s i) : cvB sh g b (bCur β s') := by
  obtain ⟨c0, c1, c2, c3, c4, c5, c6, c7, c8, c9⟩ := hc
  refine ⟨c0, fun i j hi hj => ?_, c2, c3, c4, c5, fun j hj => (c6 j hj).trans (e j (by unfold ms_rl; omega)).symm, c7, c8, c9⟩
  have hi' : i < bN β := hi
  refine (c1 i j hi hj).trans ?_
  show (if j = 1 then s (3 + i) else if j = 5 then s (11 + i) else if j = 2 then s (19 + i) else bT β i j) = (if j = 1 then s' (3 + i) else if j = 5 then s' (11 + i) else if j = 2 then s' (19 + i) else bT β i j)
  rw [e (3 + i) (by unfold ms_rl; omega), e (11 + i) (by unfold ms_rl; omega), e (19 + i) (by unfold ms_rl; omega)]
def hPop (H : ms_H) : ms_H := (H.1 - 1, H.2)
theorem wfH_pop {H : ms_H} {n : Nat} {c : Nat → Int32} (h : wfH H n c) (hN : 0 < H.1) : wfH (hPop H) n (H.2.2.2 (H.1 - 1)) := by
  refine ⟨by show H.1 - 1 ≤ 16; have := h.1; omega, fun k hk => ?_⟩
  have hk' : k < H.1 - 1 := hk
  have e : ∀ q, q ≤ H.1 - 1 → hS (hPop H) (H.2.2.2 (H.1 - 1)) q = hS H c q := by
    intro q hq
    unfold hS
    rw [if_pos (show q < H.1 by omega)]
    by_cases c1 : q < H.1 - 1
    · rw [if_pos (show q < (hPop H).1 from c1)]; rfl
    · rw [if_neg (show ¬ q < (hPop H).1 from c1), show q = H.1 - 1 by omega]
  rw [e k (by omega), e (k + 1) (by omega)]
  exact h.2 k (by omega)
theorem wfC_pop {H : ms_H} {β : ms_B} (hw : wfB β) (h : wfH H (bN β) (cur β)) (hN : 0 < H.1) : wfC (bN β) (H.2.2.2 (H.1 - 1)) := by
  have hn := hw.1
  have hh := h.2 (H.1 - 1) (by omega)
  have e1 : hS H (cur β) (H.1 - 1) = H.2.2.2 (H.1 - 1) := by unfold hS; rw [if_pos (by omega)]
  have e2 : hS H (cur β) (H.1 - 1 + 1) = cur β := by unfold hS; rw [if_neg (by omega)]
  rw [e1, e2] at hh
  obtain ⟨a1, a2, a3, a4, a5, a6, a7⟩ := hh
  obtain ⟨c1, c2, c3, c4⟩ := wfC_cur hw
  refine ⟨fun i hi => ⟨?_, ?_, ?_⟩, ?_, ?_, ?_⟩
  · by_cases q : H.2.1 (H.1 - 1) = 3
    · exact (a7 q).2.2 i hi
    · rw [a3 (3 + i) (by unfold ms_rl; omega) (by omega) (by omega) (by omega)]; exact (c1 i hi).1
  · by_cases q : H.2.1 (H.1 - 1) ≤ 1 ∧ 11 + i = 11 + H.2.2.1 (H.1 - 1)
    · obtain ⟨q1, q2⟩ := q
      rw [q2]
      have : H.2.1 (H.1 - 1) = 0 ∨ H.2.1 (H.1 - 1) = 1 := by omega
      rcases this with q | q
      · rw [(a4 q).1, im]; decide
      · rw [(a5 q).1, im]; decide
    · rw [a3 (11 + i) (by unfold ms_rl; omega) q (by omega) (by omega)]; exact (c1 i hi).2.1
  · by_cases q : H.2.1 (H.1 - 1) = 2 ∧ 19 + i = 19 + H.2.2.1 (H.1 - 1)
    · rw [q.2]; exact a6 q.1
    · rw [a3 (19 + i) (by unfold ms_rl; omega) (by omega) q (by omega)]; exact (c1 i hi).2.2
  · by_cases q : H.2.1 (H.1 - 1) = 3
    · exact im_mo (a7 q).1 (by omega) (by omega)
    · rw [a3 0 (by unfold ms_rl; omega) (by omega) (by omega) (by omega)]; exact c2
  · rw [a3 1 (by unfold ms_rl; omega) (by omega) (by omega) (by omega)]; exact c3
  · rw [a3 2 (by unfold ms_rl; omega) (by omega) (by omega) (by omega)]; exact c4
def sMix (s c : Nat → Int32) (k : Nat) (i : Nat) : Int32 := if 3 ≤ i ∧ i < 3 + k then s i else c i
theorem tb_100 {sh : List gb_Sh} {β : ms_B} {s : Nat → Int32} {N : Nat} {K : gb_G → Option (gb_G × Int32)} {P : gb_G × Int32 → Prop} (hw : wfB β) (hN : N < 16) : ∀ (m k fuel : Nat) (g : gb_G), k + m = bN β → m < fuel → (∀ i, i < bN β → g.1 37 (8 * N + i) = s (3 + i)) → g.1 33 0 = Int32.ofNat N → cvB sh g 1 (bCur β (sMix s (cur β) k)) → (∀ g', gb_Fr (fun c _ => c = 2) g g' → cvB sh g' 1 (bCur β (sMix s (cur β) (bN β))) → gb_T (K (gb_pi g' 5 0 (g'.1 5 0 - 1))) P) → gb_T (f_X3_takeBack_100 sh 33 1 K fuel g (Int32.ofNat k)) P := by
  have hn := hw.1
  intro m
  induction m with
  | zero =>
    intro k fuel g h hf h1 h2 hc hK
    obtain ⟨f, rfl⟩ : ∃ f, fuel = f + 1 := ⟨fuel - 1, by omega⟩
    have e : k = bN β := by omega
    subst e
    rw [f_X3_takeBack_100, if_pos (by rw [hc.1]; exact Int32.le_refl _)]
    exact hK g gb_Fr.rf hc
  | succ m ih =>
    intro k fuel g h hf h1 h2 hc hK
    obtain ⟨f, rfl⟩ : ∃ f, fuel = f + 1 := ⟨fuel - 1, by omega⟩
    have c0 : g.1 1 0 = Int32.ofNat (bN β) := hc.1
    rw [f_X3_takeBack_100, if_neg (by rw [c0, o_le (by omega) (by omega)]; omega), if_neg (by rw [show (8 : Int32) = Int32.ofNat 8 from rfl, o_le (by omega) (by omega)]; omega), h2, x8, gb_ck_s (o_in (by omega) (by omega)), o_cl (by omega), wr_t (n := bN β) (i := k) (y := 1) (j := 1) hn c0 rfl (by omega) rfl (by omega), gb_bd_s, o_succ, h1 k (by omega)]
    refine ih (k + 1) f _ (by omega) (by omega) (fun i hi => by rw [pi_n (by omega)]; exact h1 i hi) (by rw [pi_n (by omega)]; exact h2) ?_ fun g' F' hc' => hK g' (gb_Fr.tr (W := fun c _ => c = 2) (gb_Fr.rf.p2 rfl) F') hc'
    obtain ⟨c0, c1, c2, c3, c4, c5, c6, c7, c8, c9⟩ := hc
    have fr : ∀ c q, ¬ c = 2 → eqc g (gb_pi g (1 + 1) (7 * k + 1) (s (3 + k))) c q := fun c q hq => ⟨pi_n (by omega), rfl, rfl⟩
    refine ⟨c0, fun i j hi hj => ?_, c2, fun p i hp hi => (fr _ _ (by omega)).1.trans (c3 p i hp hi), c4, fun j hj => (fr _ _ (by omega)).1.trans (c5 j hj), fun j hj => ?_, c7, fun q lw hq => ?_, c9⟩
    · have hi' : i < bN β := hi
      have c1' := c1 i j hi hj
      show _ = if j = 1 then sMix s (cur β) (k + 1) (3 + i) else if j = 5 then sMix s (cur β) (k + 1) (11 + i) else if j = 2 then sMix s (cur β) (k + 1) (19 + i) else bT β i j
      have c1'' : g.1 (1 + 1) (7 * i + j) = if j = 1 then sMix s (cur β) k (3 + i) else if j = 5 then sMix s (cur β) k (11 + i) else if j = 2 then sMix s (cur β) k (19 + i) else bT β i j := c1'
      by_cases e : i = k ∧ j = 1
      · obtain ⟨e1, e2⟩ := e
        subst e1 e2
        rw [pi_e, if_pos rfl, sMix, if_pos (by omega)]
      · rw [pi_n (by omega), c1'']
        by_cases e1 : j = 1
        · rw [if_pos e1, if_pos e1]
          unfold sMix
          by_cases e2 : i < k
          · rw [if_pos (by omega), if_pos (by omega)]
          · rw [if_neg (by omega), if_neg (by omega)]
        · rw [if_neg e1, if_neg e1]
          have z : ∀ q, 11 ≤ q → sMix s (cur β) k q = sMix s (cur β) (k + 1) q := fun q hq => by unfold sMix; rw [if_neg (by omega), if_neg (by omega)]
          rw [z (11 + i) (by omega), z (19 + i) (by omega)]
    · rw [(fr _ _ (by omega)).1, c6 j hj]
      show sMix s (cur β) k j = sMix s (cur β) (k + 1) j
      unfold sMix; rw [if_neg (by omega), if_neg (by omega)]
    · obtain ⟨p, hp, hl⟩ := c8 q lw hq
      exact ⟨p, hp, cvL_fr hl fun c k hc => fr c k (by omega)⟩
theorem tb_c {sh : List gb_Sh} {β : ms_B} {H : ms_H} {g : gb_G} (hw : wfB β) (hc : cvB sh g 1 β) (hh : cvH g 33 H (bN β)) (hwH : wfH H (bN β) (cur β)) (hN : 0 < H.1) : gb_T (f_X3_takeBack sh g 33 1) (fun o => cvB sh o.1 1 (bCur β (H.2.2.2 (H.1 - 1))) ∧ cvH o.1 33 (hPop H) (bN β) ∧ o.2 = Int32.ofNat (H.2.1 (H.1 - 1))) := by
  have hn := hw.1
  have hN16 := hwH.1
  obtain ⟨h0, h1⟩ := hh
  obtain ⟨b1, b2, b3, b4⟩ := h1 (H.1 - 1) (by omega)
  have hd := hwH.2 (H.1 - 1) (by omega)
  have e1 : hS H (cur β) (H.1 - 1) = H.2.2.2 (H.1 - 1) := by unfold hS; rw [if_pos (by omega)]
  have e2 : hS H (cur β) (H.1 - 1 + 1) = cur β := by unfold hS; rw [if_neg (by omega)]
  rw [e1, e2] at hd
  obtain ⟨N, eN⟩ : ∃ N, H.1 = N + 1 := ⟨H.1 - 1, by omega⟩
  have eN' : H.1 - 1 = N := by omega
  rw [eN'] at hd b1 b2 b3 b4 ⊢
  obtain ⟨a1, a2, a3, a4, a5, a6, a7⟩ := hd
  obtain ⟨g3, hg3⟩ : ∃ q, q = gb_pi g 33 0 (Int32.ofNat N) := ⟨_, rfl⟩
  have mx : f_J9_max_7cf53 sh g 0 (g.1 33 0 - 1) = some (g, Int32.ofNat N) := by
    unfold f_J9_max_7cf53
    rw [h0, eN, o_pred]
    by_cases c : (0 : Int32) < Int32.ofNat N
    · first | rw [if_pos c] | rw [if_neg (by rw [Int32.le_iff_toInt_le]; rw [Int32.lt_iff_toInt_lt] at c; omega)]
    · have : N = 0 := by
        rw [show (0 : Int32) = Int32.ofNat 0 from rfl, o_lt (by omega) (by omega)] at c; omega
      subst this
      split <;> rfl
  have hc3 : cvB sh g3 1 β := by rw [hg3]; exact cvB_fr hc fun c k q => ⟨pi_n (by omega), rfl, rfl⟩
  have h30 : g3.1 33 0 = Int32.ofNat N := by rw [hg3, pi_e]
  have f3 : ∀ c k, ¬ c = 33 → g3.1 c k = g.1 c k := fun c k q => by rw [hg3]; exact pi_n (by omega)
  have ck : ∀ {α : Type} {y : Option α}, gb_ck (Int32.ofNat N) 16 y = y := fun {α y} => gb_ck_s (o_in (by omega) (by omega))
  have hH3 : cvH g3 33 (hPop H) (bN β) := by
    refine ⟨h30.trans (by show _ = Int32.ofNat (H.1 - 1); rw [eN']), fun k hk => ?_⟩
    have hk' : k < H.1 - 1 := hk
    obtain ⟨z1, z2, z3, z4⟩ := h1 k (by omega)
    exact ⟨(f3 _ _ (by omega)).trans z1, fun q => (f3 _ _ (by omega)).trans (z2 q), fun q => (f3 _ _ (by omega)).trans (z3 q), fun q i hi => (f3 _ _ (by omega)).trans (z4 q i hi)⟩
  have fin : ∀ g' : gb_G, (∀ c k, ¬ (c = 2 ∨ c = 5) → g'.1 c k = g3.1 c k) → f_X3_takeBack_150 sh 33 1 g' = some (g', Int32.ofNat (H.2.1 N)) := by
    intro g' e
    unfold f_X3_takeBack_150
    rw [e 33 0 (by omega), h30, ck, o_cl (by omega), e _ _ (by omega), f3 _ _ (by omega)]
    exact congrArg (fun z => some (g', z)) b1
  have finH : ∀ g' : gb_G, gb_Fr (fun c _ => c = 2 ∨ c = 5) g3 g' → cvH g' 33 (hPop H) (bN β) := fun g' F => cvH_fr hH3 fun c k q => F c k (by omega)
  unfold f_X3_takeBack
  rw [mx, gb_bd_s, gb_let_s]
  simp only []
  rw [← hg3, h30, ck, ck, o_cl (by omega), f3 _ _ (by omega), b1]
  have hK : H.2.1 N = 0 ∨ H.2.1 N = 1 ∨ H.2.1 N = 2 ∨ H.2.1 N = 3 := by omega
  rcases hK with hK | hK | hK | hK
  · have hj := a2 (by omega)
    rw [hK, if_pos (by decide), f3 _ _ (by omega), b2 (by omega), wr_t (n := bN β) (y := 5) (j := 5) hn hc3.1 rfl hj rfl (by omega), gb_bd_s, fin _ (fun c k q => pi_n (by omega))]
    refine ⟨_, rfl, cvB_curc (wr_cur (by omega) hw hc3 hj (t := 5) (p := 11 + H.2.2.1 N) (by omega)) fun i hi => ?_, finH _ (gb_Fr.rf.p2 (by omega)), by rw [hK]⟩
    by_cases e : i = 11 + H.2.2.1 N
    · rw [e, sSet_e, (a4 hK).1]
    · rw [sSet_n e]; exact a3 i hi (by omega) (by omega) (by omega)
  · have hj := a2 (by omega)
    rw [hK, if_neg (by decide), if_pos (by decide), f3 _ _ (by omega), b2 (by omega), wr_t (n := bN β) (y := 5) (j := 5) hn hc3.1 rfl hj rfl (by omega), gb_bd_s, fin _ (fun c k q => pi_n (by omega))]
    refine ⟨_, rfl, cvB_curc (wr_cur (by omega) hw hc3 hj (t := 5) (p := 11 + H.2.2.1 N) (by omega)) fun i hi => ?_, finH _ (gb_Fr.rf.p2 (by omega)), by rw [hK]⟩
    by_cases e : i = 11 + H.2.2.1 N
    · rw [e, sSet_e, (a5 hK).1]
    · rw [sSet_n e]; exact a3 i hi (by omega) (by omega) (by omega)
  · have hj := a2 (by omega)
    rw [hK, if_neg (by decide), if_neg (by decide), if_pos (by decide), ck, f3 _ _ (by omega), b2 (by omega), wr_t (n := bN β) (y := 2) (j := 2) hn hc3.1 rfl hj rfl (by omega), gb_bd_s, fin _ (fun c k q => pi_n (by omega)), f3 _ _ (by omega), b3 hK]
    refine ⟨_, rfl, cvB_curc (wr_cur (by omega) hw hc3 hj (t := 2) (p := 19 + H.2.2.1 N) (by omega)) fun i hi => ?_, finH _ (gb_Fr.rf.p2 (by omega)), by rw [hK]⟩
    by_cases e : i = 19 + H.2.2.1 N
    · rw [e, sSet_e]
    · rw [sSet_n e]; exact a3 i hi (by omega) (by omega) (by omega)
  · rw [hK, if_neg (by decide), if_neg (by decide), if_neg (by decide)]
    have hcc : cvB sh g3 1 (bCur β (sMix (H.2.2.2 N) (cur β) 0)) := by
      have z : ∀ i, sMix (H.2.2.2 N) (cur β) 0 i = cur β i := fun i => by unfold sMix; rw [if_neg (by omega)]
      refine cvB_cur hw hc3 (fun a ha => ⟨?_, ?_, ?_⟩) (fun _ _ _ _ _ _ _ => rfl) (fun j hj => ?_) (fun c k _ => ⟨rfl, rfl, rfl⟩)
      · rw [z, cur_now (by omega)]; exact hc3.2.1 a 1 ha (by omega)
      · rw [z, cur_la (by omega)]; exact hc3.2.1 a 5 ha (by omega)
      · rw [z, cur_we]; exact hc3.2.1 a 2 ha (by omega)
      · rw [z, cur_te hj]; exact hc3.2.2.2.2.2.2.1 j hj
    refine tb_100 (K := fun w => f_X3_takeBack_150 sh 33 1 w) (s := H.2.2.2 N) (N := N) hw (by omega) (bN β) 0 gb_N g3 (by omega) (by unfold gb_N; omega) (fun i hi => (f3 _ _ (by omega)).trans (b4 hK i hi)) h30 hcc fun g' F' hc' => ?_
    show gb_T (f_X3_takeBack_150 sh 33 1 _) _
    rw [fin _ (fun c k q => (pi_n (by omega)).trans (F' c k (by omega)).1)]
    refine ⟨_, rfl, ?_, finH _ ((F'.up (fun c k q => Or.inl q)).p2 (by omega)), by rw [hK]⟩
    have hc5 : g'.1 5 0 = sMix (H.2.2.2 N) (cur β) (bN β) 0 := hc'.2.2.2.2.2.2.1 0 (by omega)
    have e5 : g'.1 5 0 - 1 = H.2.2.2 N 0 := by
      rw [hc5, sMix, if_neg (by omega), (a7 hK).2.1, Int32.add_sub_cancel]
    obtain ⟨c0, c1, c2, c3, c4, c5, c6, c7, c8, c9⟩ := hc'
    have fr : ∀ c q, ¬ c = 5 → eqc g' (gb_pi g' 5 0 (g'.1 5 0 - 1)) c q := fun c q hq => ⟨pi_n (by omega), rfl, rfl⟩
    refine ⟨c0, fun i j hi hj => ?_, c2, fun p i hp hi => (fr _ _ (by omega)).1.trans (c3 p i hp hi), c4, fun j hj => (fr _ _ (by omega)).1.trans (c5 j hj), fun j hj => ?_, c7, fun q lw hq => ?_, c9⟩
    · have hi' : i < bN β := hi
      have c1' : g'.1 (1 + 1) (7 * i + j) = if j = 1 then sMix (H.2.2.2 N) (cur β) (bN β) (3 + i) else if j = 5 then sMix (H.2.2.2 N) (cur β) (bN β) (11 + i) else if j = 2 then sMix (H.2.2.2 N) (cur β) (bN β) (19 + i) else bT β i j := c1 i j hi hj
      show _ = if j = 1 then H.2.2.2 N (3 + i) else if j = 5 then H.2.2.2 N (11 + i) else if j = 2 then H.2.2.2 N (19 + i) else bT β i j
      rw [(fr _ _ (by omega)).1, c1', show sMix (H.2.2.2 N) (cur β) (bN β) (3 + i) = H.2.2.2 N (3 + i) by unfold sMix; rw [if_pos (by omega)], show sMix (H.2.2.2 N) (cur β) (bN β) (11 + i) = H.2.2.2 N (11 + i) by unfold sMix; rw [if_neg (by omega)]; exact (a3 _ (by unfold ms_rl; omega) (by omega) (by omega) (by omega)).symm, show sMix (H.2.2.2 N) (cur β) (bN β) (19 + i) = H.2.2.2 N (19 + i) by unfold sMix; rw [if_neg (by omega)]; exact (a3 _ (by unfold ms_rl; omega) (by omega) (by omega) (by omega)).symm]
    · show _ = H.2.2.2 N j
      by_cases ej : j = 0
      · subst ej; rw [pi_e, e5]
      · rw [pi_n (by omega), c6 j hj]
        show sMix (H.2.2.2 N) (cur β) (bN β) j = _
        unfold sMix; rw [if_neg (by omega)]; exact (a3 _ (by unfold ms_rl; omega) (by omega) (by omega) (by omega)).symm
    · obtain ⟨p, hp, hl⟩ := c8 q lw hq
      exact ⟨p, hp, cvL_fr hl fun c k hc => fr c k (by omega)⟩
theorem p_undo : ps_undo gb_I := by
  intro sh g hI
  obtain ⟨β, ⟨hw, hc, hm⟩, hU⟩ := hI.2.2.2.2.2.2.2.2
  obtain ⟨H, hh, hhm, hwH⟩ := U_of hw hm hU
  have hn := hw.1
  have hN := hwH.1
  by_cases h0 : H.1 = 0
  · refine rf_b (fun g => f_X11_undo sh g) (-3) 3 (by omega) rfl (by decide) hI ?_ fun g1 e1 e2 _ => ?_
    · unfold f_X10_undo
      rw [if_pos (by rw [hh.1, h0]; rfl)]
    · show f_X11_undo sh g1 = _
      unfold f_X11_undo
      rw [gb_let_s, if_pos (by rw [pi_n (by omega), e2, hhm.1, h0]; rfl)]
  · obtain ⟨⟨a, va⟩, e1, hc1, hh1, ev⟩ := tb_c (sh := sh) hw hc hh hwH (by omega)
    have F1 : gb_Fr _ g a := w_X3_takeBack e1
    have ev' : va = Int32.ofNat (H.2.1 (H.1 - 1)) := ev
    subst ev'
    have hw2 : wfB (bCur β (H.2.2.2 (H.1 - 1))) := wfB_cur hw (wfC_pop hw hwH (by omega))
    have hK : H.2.1 (H.1 - 1) ≤ 3 := (hwH.2 (H.1 - 1) (by omega)).1
    obtain ⟨g2, hg2⟩ : ∃ q, q = gb_pi (gb_pi (gb_pi a 0 18 0) 77 0 0) 77 8 (Int32.ofNat (H.1 - 1)) := ⟨_, rfl⟩
    have f2 : ∀ c k, ¬ ((c = 0 ∧ k = 18) ∨ (c = 77 ∧ (k = 0 ∨ k = 8))) → g2.1 c k = a.1 c k := fun c k q => by rw [hg2, pi_n (by omega), pi_n (by omega), pi_n (by omega)]
    obtain ⟨b, e3, b1, F3⟩ := pb_m (sh := sh) (q := H.1 - 1) (g := g2) (by omega)
    have h8 : b.1 77 8 = Int32.ofNat (H.1 - 1) := by rw [(F3 77 8 (by omega)).1, hg2, pi_e]
    have hs : b.1 83 (H.1 - 1) = Int32.ofNat (H.2.1 (H.1 - 1)) := by
      rw [(F3 83 _ (by omega)).1, f2 _ _ (by omega), (F1 83 _ (by omega)).1]; exact (hhm.2 (H.1 - 1) (by omega)).1
    refine ⟨(gb_pi a 0 18 0, Int32.ofNat (H.2.1 (H.1 - 1))), (gb_pi b 77 1 0, Int32.ofNat (H.2.1 (H.1 - 1))), ?_, ?_, rfl, ?_⟩
    · unfold f_X10_undo
      rw [if_neg (fun q => h0 (by rw [hh.1] at q; exact o_inj (j := 0) (by omega) (by omega) q)), e1, gb_bd_s]; rfl
    · show f_X11_undo sh (gb_pi a 0 18 0) = _
      have h80 : (gb_pi (gb_pi a 0 18 0) 77 0 0).1 77 8 = Int32.ofNat H.1 := by rw [pi_n (by omega), pi_n (by omega), (F1 77 8 (by omega)).1]; exact hhm.1
      unfold f_X11_undo
      rw [gb_let_s, h80, if_neg (show ¬ Int32.ofNat H.1 = 0 from fun q => h0 (o_inj (j := 0) (by omega) (by omega) q)), show Int32.ofNat H.1 - 1 = Int32.ofNat (H.1 - 1) by rw [show H.1 = (H.1 - 1) + 1 by omega, o_pred]; rfl, gb_let_s, ← hg2, show g2.1 77 8 = Int32.ofNat (H.1 - 1) by rw [hg2, pi_e], e3, gb_bd_s, h8, gb_ck_s (o_in (by omega) (by omega)), o_cl (by omega), hs, te_p (by rw [o_int (by omega)]; omega)]; rfl
    · refine ok_core (β' := bCur β (H.2.2.2 (H.1 - 1))) (H' := hPop H) (W2 := fun c k => (c = 77 ∧ k = 8) ∨ c = 79) hI hw2 (by rw [cur_curf]; exact wfH_pop hwH (by omega)) F1 (fun c k q => by omega) ?_ (fun c k q => by omega) hc1 hh1 ?_ ⟨h8, fun k hk => ?_⟩
      · refine gb_Fr.tr (gb_Fr.pi (by omega) hg2) (F3.up fun c k q => by omega)
      · refine mvB_cur hw hm (fun i hi => ?_) fun k hk hq => ?_
        · have hi' : i < 27 := by unfold ms_rl at hi; omega
          rw [b1 i hi', f2 _ _ (by omega), (F1 82 _ (by omega)).1]
          exact (hhm.2 (H.1 - 1) (by omega)).2 i hi' hi
        · rw [(F3 79 k (by omega)).1, f2 _ _ (by omega), (F1 79 k (by omega)).1]
      · have hk' : k < H.1 - 1 := hk
        obtain ⟨z1, z2⟩ := hhm.2 k (by omega)
        refine ⟨?_, fun i hi hr => ?_⟩
        · rw [(F3 83 _ (by omega)).1, f2 _ _ (by omega), (F1 83 _ (by omega)).1]; exact z1
        · rw [(F3 82 _ (by omega)).1, f2 _ _ (by omega), (F1 82 _ (by omega)).1]; exact z2 i hi hr
