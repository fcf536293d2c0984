/-! ===== undo ===== -/
theorem cvB_curc {sh : List gb_Sh} {g : gb_G} {b : Nat} {β : ms_B} {s s' : Nat → Int32} (hc : cvB sh g b (bCur β s)) (e : ∀ i, ms_rl (bN β) i → s' i = s i) : cvB sh g b (bCur β s') := by
  obtain ⟨c0, c1, c2, c3, c4, c5, c6, c7, c8, c9⟩ := hc
  refine ⟨c0, fun i j hi hj => ?_, c2, c3, c4, c5, fun j hj => (c6 j hj).trans (e j (by unfold ms_rl; omega)).symm, c7, c8, c9⟩
  have hi' : i < bN β := hi
  refine (c1 i j hi hj).trans ?_
  show (if j = 1 then s (3 + i) else if j = 5 then s (11 + i) else if j = 2 then s (19 + i) else bT β i j) = (if j = 1 then s' (3 + i) else if j = 5 then s' (11 + i) else if j = 2 then s' (19 + i) else bT β i j)
  rw [e (3 + i) (by unfold ms_rl; omega), e (11 + i) (by unfold ms_rl; omega), e (19 + i) (by unfold ms_rl; omega)]
def hPop (H : ms_H) : ms_H := (H.1 - 1, H.2)
theorem wfH_pop {H : ms_H} {n : Nat} {c : Nat → Int32} (h : wfH H n c) (hN : 0 < H.1) : wfH (hPop H) n (H.2.2.2 (H.1 - 1)) := by
  refine ⟨by show H.1 - 1 ≤ 16; have := h.1; omega, fun k hk => ?_⟩
  have hk' : k < H.1 - 1 := hk
  have e : ∀ q, q ≤ H.1 - 1 → hS (hPop H) (H.2.2.2 (H.1 - 1)) q = hS H c q := by
    intro q hq
    unfold hS
    rw [if_pos (show q < H.1 by omega)]
    by_cases c1 : q < H.1 - 1
    · rw [if_pos (show q < (hPop H).1 from c1)]; rfl
    · rw [if_neg (show ¬ q < (hPop H).1 from c1), show q = H.1 - 1 by omega]
  rw [e k (by omega), e (k + 1) (by omega)]
  exact h.2 k (by omega)
theorem wfC_pop {H : ms_H} {β : ms_B} (hw : wfB β) (h : wfH H (bN β) (cur β)) (hN : 0 < H.1) : wfC (bN β) (H.2.2.2 (H.1 - 1)) := by
  have hn := hw.1
  have hh := h.2 (H.1 - 1) (by omega)
  have e1 : hS H (cur β) (H.1 - 1) = H.2.2.2 (H.1 - 1) := by unfold hS; rw [if_pos (by omega)]
  have e2 : hS H (cur β) (H.1 - 1 + 1) = cur β := by unfold hS; rw [if_neg (by omega)]
  rw [e1, e2] at hh
  obtain ⟨a1, a2, a3, a4, a5, a6, a7⟩ := hh
  obtain ⟨c1, c2, c3, c4⟩ := wfC_cur hw
  refine ⟨fun i hi => ⟨?_, ?_, ?_⟩, ?_, ?_, ?_⟩
  · by_cases q : H.2.1 (H.1 - 1) = 3
    · exact (a7 q).2.2 i hi
    · rw [a3 (3 + i) (by unfold ms_rl; omega) (by omega) (by omega) (by omega)]; exact (c1 i hi).1
  · by_cases q : H.2.1 (H.1 - 1) ≤ 1 ∧ 11 + i = 11 + H.2.2.1 (H.1 - 1)
    · obtain ⟨q1, q2⟩ := q
      rw [q2]
      have : H.2.1 (H.1 - 1) = 0 ∨ H.2.1 (H.1 - 1) = 1 := by omega
      rcases this with q | q
      · rw [(a4 q).1, im]; decide
      · rw [(a5 q).1, im]; decide
    · rw [a3 (11 + i) (by unfold ms_rl; omega) q (by omega) (by omega)]; exact (c1 i hi).2.1
  · by_cases q : H.2.1 (H.1 - 1) = 2 ∧ 19 + i = 19 + H.2.2.1 (H.1 - 1)
    · rw [q.2]; exact a6 q.1
    · rw [a3 (19 + i) (by unfold ms_rl; omega) (by omega) q (by omega)]; exact (c1 i hi).2.2
  · by_cases q : H.2.1 (H.1 - 1) = 3
    · exact im_mo (a7 q).1 (by omega) (by omega)
    · rw [a3 0 (by unfold ms_rl; omega) (by omega) (by omega) (by omega)]; exact c2
  · rw [a3 1 (by unfold ms_rl; omega) (by omega) (by omega) (by omega)]; exact c3
  · rw [a3 2 (by unfold ms_rl; omega) (by omega) (by omega) (by omega)]; exact c4
def sMix (s c : Nat → Int32) (k : Nat) (i : Nat) : Int32 := if 3 ≤ i ∧ i < 3 + k then s i else c i
theorem tb_100 {sh : List gb_Sh} {β : ms_B} {s : Nat → Int32} {N : Nat} {K : gb_G → Option (gb_G × Int32)} {P : gb_G × Int32 → Prop} (hw : wfB β) (hN : N < 16) : ∀ (m k fuel : Nat) (g : gb_G), k + m = bN β → m < fuel → (∀ i, i < bN β → g.1 37 (8 * N + i) = s (3 + i)) → g.1 33 0 = Int32.ofNat N → cvB sh g 1 (bCur β (sMix s (cur β) k)) → (∀ g', gb_Fr (fun c _ => c = 2) g g' → cvB sh g' 1 (bCur β (sMix s (cur β) (bN β))) → gb_T (K (gb_pi g' 5 0 (g'.1 5 0 - 1))) P) → gb_T (f_X3_takeBack_100 sh 33 1 K fuel g (Int32.ofNat k)) P := by
  have hn := hw.1
  intro m
  induction m with
  | zero =>
    intro k fuel g h hf h1 h2 hc hK
    obtain ⟨f, rfl⟩ : ∃ f, fuel = f + 1 := ⟨fuel - 1, by omega⟩
    have e : k = bN β := by omega
    subst e
    rw [f_X3_takeBack_100, if_pos (by rw [hc.1]; exact Int32.le_refl _)]
    exact hK g gb_Fr.rf hc
  | succ m ih =>
    intro k fuel g h hf h1 h2 hc hK
    obtain ⟨f, rfl⟩ : ∃ f, fuel = f + 1 := ⟨fuel - 1, by omega⟩
    have c0 : g.1 1 0 = Int32.ofNat (bN β) := hc.1
    rw [f_X3_takeBack_100, if_neg (by rw [c0, o_le (by omega) (by omega)]; omega), if_neg (by rw [show (8 : Int32) = Int32.ofNat 8 from rfl, o_le (by omega) (by omega)]; omega), h2, x8, gb_ck_s (o_in (by omega) (by omega)), o_cl (by omega), wr_t (n := bN β) (i := k) (y := 1) (j := 1) hn c0 rfl (by omega) rfl (by omega), gb_bd_s, o_succ, h1 k (by omega)]
    refine ih (k + 1) f _ (by omega) (by omega) (fun i hi => by rw [pi_n (by omega)]; exact h1 i hi) (by rw [pi_n (by omega)]; exact h2) ?_ fun g' F' hc' => hK g' (gb_Fr.tr (W := fun c _ => c = 2) (gb_Fr.rf.p2 rfl) F') hc'
    obtain ⟨c0, c1, c2, c3, c4, c5, c6, c7, c8, c9⟩ := hc
    have fr : ∀ c q, ¬ c = 2 → eqc g (gb_pi g (1 + 1) (7 * k + 1) (s (3 + k))) c q := fun c q hq => ⟨pi_n (by omega), rfl, rfl⟩
    refine ⟨c0, fun i j hi hj => ?_, c2, fun p i hp hi => (fr _ _ (by omega)).1.trans (c3 p i hp hi), c4, fun j hj => (fr _ _ (by omega)).1.trans (c5 j hj), fun j hj => ?_, c7, fun q lw hq => ?_, c9⟩
    · have hi' : i < bN β := hi
      have c1' := c1 i j hi hj
      show _ = if j = 1 then sMix s (cur β) (k + 1) (3 + i) else if j = 5 then sMix s (cur β) (k + 1) (11 + i) else if j = 2 then sMix s (cur β) (k + 1) (19 + i) else bT β i j
      have c1'' : g.1 (1 + 1) (7 * i + j) = if j = 1 then sMix s (cur β) k (3 + i) else if j = 5 then sMix s (cur β) k (11 + i) else if j = 2 then sMix s (cur β) k (19 + i) else bT β i j := c1'
      by_cases e : i = k ∧ j = 1
      · obtain ⟨e1, e2⟩ := e
        subst e1 e2
        rw [pi_e, if_pos rfl, sMix, if_pos (by omega)]
      · rw [pi_n (by omega), c1'']
        by_cases e1 : j = 1
        · rw [if_pos e1, if_pos e1]
          unfold sMix
          by_cases e2 : i < k
          · rw [if_pos (by omega), if_pos (by omega)]
          · rw [if_neg (by omega), if_neg (by omega)]
        · rw [if_neg e1, if_neg e1]
          have z : ∀ q, 11 ≤ q → sMix s (cur β) k q = sMix s (cur β) (k + 1) q := fun q hq => by unfold sMix; rw [if_neg (by omega), if_neg (by omega)]
          rw [z (11 + i) (by omega), z (19 + i) (by omega)]
    · rw [(fr _ _ (by omega)).1, c6 j hj]
      show sMix s (cur β) k j = sMix s (cur β) (k + 1) j
      unfold sMix; rw [if_neg (by omega), if_neg (by omega)]
    · obtain ⟨p, hp, hl⟩ := c8 q lw hq
      exact ⟨p, hp, cvL_fr hl fun c k hc => fr c k (by omega)⟩
theorem tb_c {sh : List gb_Sh} {β : ms_B} {H : ms_H} {g : gb_G} (hw : wfB β) (hc : cvB sh g 1 β) (hh : cvH g 33 H (bN β)) (hwH : wfH H (bN β) (cur β)) (hN : 0 < H.1) : gb_T (f_X3_takeBack sh g 33 1) (fun o => cvB sh o.1 1 (bCur β (H.2.2.2 (H.1 - 1))) ∧ cvH o.1 33 (hPop H) (bN β) ∧ o.2 = Int32.ofNat (H.2.1 (H.1 - 1))) := by
  have hn := hw.1
  have hN16 := hwH.1
  obtain ⟨h0, h1⟩ := hh
  obtain ⟨b1, b2, b3, b4⟩ := h1 (H.1 - 1) (by omega)
  have hd := hwH.2 (H.1 - 1) (by omega)
  have e1 : hS H (cur β) (H.1 - 1) = H.2.2.2 (H.1 - 1) := by unfold hS; rw [if_pos (by omega)]
  have e2 : hS H (cur β) (H.1 - 1 + 1) = cur β := by unfold hS; rw [if_neg (by omega)]
  rw [e1, e2] at hd
  obtain ⟨N, eN⟩ : ∃ N, H.1 = N + 1 := ⟨H.1 - 1, by omega⟩
  have eN' : H.1 - 1 = N := by omega
  rw [eN'] at hd b1 b2 b3 b4 ⊢
  obtain ⟨a1, a2, a3, a4, a5, a6, a7⟩ := hd
  obtain ⟨g3, hg3⟩ : ∃ q, q = gb_pi g 33 0 (Int32.ofNat N) := ⟨_, rfl⟩
  have mx : f_J9_max_7cf53 sh g 0 (g.1 33 0 - 1) = some (g, Int32.ofNat N) := by
    unfold f_J9_max_7cf53
    rw [h0, eN, o_pred]
    by_cases c : (0 : Int32) < Int32.ofNat N
    · first | rw [if_pos c] | rw [if_neg (by rw [Int32.le_iff_toInt_le]; rw [Int32.lt_iff_toInt_lt] at c; omega)]
    · have : N = 0 := by
        rw [show (0 : Int32) = Int32.ofNat 0 from rfl, o_lt (by omega) (by omega)] at c; omega
      subst this
      split <;> rfl
  have hc3 : cvB sh g3 1 β := by rw [hg3]; exact cvB_fr hc fun c k q => ⟨pi_n (by omega), rfl, rfl⟩
  have h30 : g3.1 33 0 = Int32.ofNat N := by rw [hg3, pi_e]
  have f3 : ∀ c k, ¬ c = 33 → g3.1 c k = g.1 c k := fun c k q => by rw [hg3]; exact pi_n (by omega)
  have ck : ∀ {α : Type} {y : Option α}, gb_ck (Int32.ofNat N) 16 y = y := fun {α y} => gb_ck_s (o_in (by omega) (by omega))
  have hH3 : cvH g3 33 (hPop H) (bN β) := by
    refine ⟨h30.trans (by show _ = Int32.ofNat (H.1 - 1); rw [eN']), fun k hk => ?_⟩
    have hk' : k < H.1 - 1 := hk
    obtain ⟨z1, z2, z3, z4⟩ := h1 k (by omega)
    exact ⟨(f3 _ _ (by omega)).trans z1, fun q => (f3 _ _ (by omega)).trans (z2 q), fun q => (f3 _ _ (by omega)).trans (z3 q), fun q i hi => (f3 _ _ (by omega)).trans (z4 q i hi)⟩
  have fin : ∀ g' : gb_G, (∀ c k, ¬ (c = 2 ∨ c = 5) → g'.1 c k = g3.1 c k) → f_X3_takeBack_150 sh 33 1 g' = some (g', Int32.ofNat (H.2.1 N)) := by
    intro g' e
    unfold f_X3_takeBack_150
    rw [e 33 0 (by omega), h30, ck, o_cl (by omega), e _ _ (by omega), f3 _ _ (by omega)]
    exact congrArg (fun z => some (g', z)) b1
  have finH : ∀ g' : gb_G, gb_Fr (fun c _ => c = 2 ∨ c = 5) g3 g' → cvH g' 33 (hPop H) (bN β) := fun g' F => cvH_fr hH3 fun c k q => F c k (by omega)
  unfold f_X3_takeBack
  rw [mx, gb_bd_s, gb_let_s]
  simp only []
  rw [← hg3, h30, ck, ck, o_cl (by omega), f3 _ _ (by omega), b1]
  have hK : H.2.1 N = 0 ∨ H.2.1 N = 1 ∨ H.2.1 N = 2 ∨ H.2.1 N = 3 := by omega
  rcases hK with hK | hK | hK | hK
  · have hj := a2 (by omega)
    rw [hK, if_pos (by decide), f3 _ _ (by omega), b2 (by omega), wr_t (n := bN β) (y := 5) (j := 5) hn hc3.1 rfl hj rfl (by omega), gb_bd_s, fin _ (fun c k q => pi_n (by omega))]
    refine ⟨_, rfl, cvB_curc (wr_cur (by omega) hw hc3 hj (t := 5) (p := 11 + H.2.2.1 N) (by omega)) fun i hi => ?_, finH _ (gb_Fr.rf.p2 (by omega)), by rw [hK]⟩
    by_cases e : i = 11 + H.2.2.1 N
    · rw [e, sSet_e, (a4 hK).1]
    · rw [sSet_n e]; exact a3 i hi (by omega) (by omega) (by omega)
  · have hj := a2 (by omega)
    rw [hK, if_neg (by decide), if_pos (by decide), f3 _ _ (by omega), b2 (by omega), wr_t (n := bN β) (y := 5) (j := 5) hn hc3.1 rfl hj rfl (by omega), gb_bd_s, fin _ (fun c k q => pi_n (by omega))]
    refine ⟨_, rfl, cvB_curc (wr_cur (by omega) hw hc3 hj (t := 5) (p := 11 + H.2.2.1 N) (by omega)) fun i hi => ?_, finH _ (gb_Fr.rf.p2 (by omega)), by rw [hK]⟩
    by_cases e : i = 11 + H.2.2.1 N
    · rw [e, sSet_e, (a5 hK).1]
    · rw [sSet_n e]; exact a3 i hi (by omega) (by omega) (by omega)
  · have hj := a2 (by omega)
    rw [hK, if_neg (by decide), if_neg (by decide), if_pos (by decide), ck, f3 _ _ (by omega), b2 (by omega), wr_t (n := bN β) (y := 2) (j := 2) hn hc3.1 rfl hj rfl (by omega), gb_bd_s, fin _ (fun c k q => pi_n (by omega)), f3 _ _ (by omega), b3 hK]
    refine ⟨_, rfl, cvB_curc (wr_cur (by omega) hw hc3 hj (t := 2) (p := 19 + H.2.2.1 N) (by omega)) fun i hi => ?_, finH _ (gb_Fr.rf.p2 (by omega)), by rw [hK]⟩
    by_cases e : i = 19 + H.2.2.1 N
    · rw [e, sSet_e]
    · rw [sSet_n e]; exact a3 i hi (by omega) (by omega) (by omega)
  · rw [hK, if_neg (by decide), if_neg (by decide), if_neg (by decide)]
    have hcc : cvB sh g3 1 (bCur β (sMix (H.2.2.2 N) (cur β) 0)) := by
      have z : ∀ i, sMix (H.2.2.2 N) (cur β) 0 i = cur β i := fun i => by unfold sMix; rw [if_neg (by omega)]
      refine cvB_cur hw hc3 (fun a ha => ⟨?_, ?_, ?_⟩) (fun _ _ _ _ _ _ _ => rfl) (fun j hj => ?_) (fun c k _ => ⟨rfl, rfl, rfl⟩)
      · rw [z, cur_now (by omega)]; exact hc3.2.1 a 1 ha (by omega)
      · rw [z, cur_la (by omega)]; exact hc3.2.1 a 5 ha (by omega)
      · rw [z, cur_we]; exact hc3.2.1 a 2 ha (by omega)
      · rw [z, cur_te hj]; exact hc3.2.2.2.2.2.2.1 j hj
    refine tb_100 (K := fun w => f_X3_takeBack_150 sh 33 1 w) (s := H.2.2.2 N) (N := N) hw (by omega) (bN β) 0 gb_N g3 (by omega) (by unfold gb_N; omega) (fun i hi => (f3 _ _ (by omega)).trans (b4 hK i hi)) h30 hcc fun g' F' hc' => ?_
    show gb_T (f_X3_takeBack_150 sh 33 1 _) _
    rw [fin _ (fun c k q => (pi_n (by omega)).trans (F' c k (by omega)).1)]
    refine ⟨_, rfl, ?_, finH _ ((F'.up (fun c k q => Or.inl q)).p2 (by omega)), by rw [hK]⟩
    have hc5 : g'.1 5 0 = sMix (H.2.2.2 N) (cur β) (bN β) 0 := hc'.2.2.2.2.2.2.1 0 (by omega)
    have e5 : g'.1 5 0 - 1 = H.2.2.2 N 0 := by
      rw [hc5, sMix, if_neg (by omega), (a7 hK).2.1, Int32.add_sub_cancel]
    obtain ⟨c0, c1, c2, c3, c4, c5, c6, c7, c8, c9⟩ := hc'
    have fr : ∀ c q, ¬ c = 5 → eqc g' (gb_pi g' 5 0 (g'.1 5 0 - 1)) c q := fun c q hq => ⟨pi_n (by omega), rfl, rfl⟩
    refine ⟨c0, fun i j hi hj => ?_, c2, fun p i hp hi => (fr _ _ (by omega)).1.trans (c3 p i hp hi), c4, fun j hj => (fr _ _ (by omega)).1.trans (c5 j hj), fun j hj => ?_, c7, fun q lw hq => ?_, c9⟩
    · have hi' : i < bN β := hi
      have c1' : g'.1 (1 + 1) (7 * i + j) = if j = 1 then sMix (H.2.2.2 N) (cur β) (bN β) (3 + i) else if j = 5 then sMix (H.2.2.2 N) (cur β) (bN β) (11 + i) else if j = 2 then sMix (H.2.2.2 N) (cur β) (bN β) (19 + i) else bT β i j := c1 i j hi hj
      show _ = if j = 1 then H.2.2.2 N (3 + i) else if j = 5 then H.2.2.2 N (11 + i) else if j = 2 then H.2.2.2 N (19 + i) else bT β i j
      rw [(fr _ _ (by omega)).1, c1', show sMix (H.2.2.2 N) (cur β) (bN β) (3 + i) = H.2.2.2 N (3 + i) by unfold sMix; rw [if_pos (by omega)], show sMix (H.2.2.2 N) (cur β) (bN β) (11 + i) = H.2.2.2 N (11 + i) by unfold sMix; rw [if_neg (by omega)]; exact (a3 _ (by unfold ms_rl; omega) (by omega) (by omega) (by omega)).symm, show sMix (H.2.2.2 N) (cur β) (bN β) (19 + i) = H.2.2.2 N (19 + i) by unfold sMix; rw [if_neg (by omega)]; exact (a3 _ (by unfold ms_rl; omega) (by omega) (by omega) (by omega)).symm]
    · show _ = H.2.2.2 N j
      by_cases ej : j = 0
      · subst ej; rw [pi_e, e5]
      · rw [pi_n (by omega), c6 j hj]
        show sMix (H.2.2.2 N) (cur β) (bN β) j = _
        unfold sMix; rw [if_neg (by omega)]; exact (a3 _ (by unfold ms_rl; omega) (by omega) (by omega) (by omega)).symm
    · obtain ⟨p, hp, hl⟩ := c8 q lw hq
      exact ⟨p, hp, cvL_fr hl fun c k hc => fr c k (by omega)⟩
theorem p_undo : ps_undo gb_I := by
  intro sh g hI
  obtain ⟨β, ⟨hw, hc, hm⟩, hU⟩ := hI.2.2.2.2.2.2.2.2
  obtain ⟨H, hh, hhm, hwH⟩ := U_of hw hm hU
  have hn := hw.1
  have hN := hwH.1
  by_cases h0 : H.1 = 0
  · refine rf_b (fun g => f_X11_undo sh g) (-3) 3 (by omega) rfl (by decide) hI ?_ fun g1 e1 e2 _ => ?_
    · unfold f_X10_undo
      rw [if_pos (by rw [hh.1, h0]; rfl)]
    · show f_X11_undo sh g1 = _
      unfold f_X11_undo
      rw [gb_let_s, if_pos (by rw [pi_n (by omega), e2, hhm.1, h0]; rfl)]
  · obtain ⟨⟨a, va⟩, e1, hc1, hh1, ev⟩ := tb_c (sh := sh) hw hc hh hwH (by omega)
    have F1 : gb_Fr _ g a := w_X3_takeBack e1
    have ev' : va = Int32.ofNat (H.2.1 (H.1 - 1)) := ev
    subst ev'
    have hw2 : wfB (bCur β (H.2.2.2 (H.1 - 1))) := wfB_cur hw (wfC_pop hw hwH (by omega))
    have hK : H.2.1 (H.1 - 1) ≤ 3 := (hwH.2 (H.1 - 1) (by omega)).1
    obtain ⟨g2, hg2⟩ : ∃ q, q = gb_pi (gb_pi (gb_pi a 0 18 0) 77 0 0) 77 8 (Int32.ofNat (H.1 - 1)) := ⟨_, rfl⟩
    have f2 : ∀ c k, ¬ ((c = 0 ∧ k = 18) ∨ (c = 77 ∧ (k = 0 ∨ k = 8))) → g2.1 c k = a.1 c k := fun c k q => by rw [hg2, pi_n (by omega), pi_n (by omega), pi_n (by omega)]
    obtain ⟨b, e3, b1, F3⟩ := pb_m (sh := sh) (q := H.1 - 1) (g := g2) (by omega)
    have h8 : b.1 77 8 = Int32.ofNat (H.1 - 1) := by rw [(F3 77 8 (by omega)).1, hg2, pi_e]
    have hs : b.1 83 (H.1 - 1) = Int32.ofNat (H.2.1 (H.1 - 1)) := by
      rw [(F3 83 _ (by omega)).1, f2 _ _ (by omega), (F1 83 _ (by omega)).1]; exact (hhm.2 (H.1 - 1) (by omega)).1
    refine ⟨(gb_pi a 0 18 0, Int32.ofNat (H.2.1 (H.1 - 1))), (gb_pi b 77 1 0, Int32.ofNat (H.2.1 (H.1 - 1))), ?_, ?_, rfl, ?_⟩
    · unfold f_X10_undo
      rw [if_neg (fun q => h0 (by rw [hh.1] at q; exact o_inj (j := 0) (by omega) (by omega) q)), e1, gb_bd_s]; rfl
    · show f_X11_undo sh (gb_pi a 0 18 0) = _
      have h80 : (gb_pi (gb_pi a 0 18 0) 77 0 0).1 77 8 = Int32.ofNat H.1 := by rw [pi_n (by omega), pi_n (by omega), (F1 77 8 (by omega)).1]; exact hhm.1
      unfold f_X11_undo
      rw [gb_let_s, h80, if_neg (show ¬ Int32.ofNat H.1 = 0 from fun q => h0 (o_inj (j := 0) (by omega) (by omega) q)), show Int32.ofNat H.1 - 1 = Int32.ofNat (H.1 - 1) by rw [show H.1 = (H.1 - 1) + 1 by omega, o_pred]; rfl, gb_let_s, ← hg2, show g2.1 77 8 = Int32.ofNat (H.1 - 1) by rw [hg2, pi_e], e3, gb_bd_s, h8, gb_ck_s (o_in (by omega) (by omega)), o_cl (by omega), hs, te_p (by rw [o_int (by omega)]; omega)]; rfl
    · refine ok_core (β' := bCur β (H.2.2.2 (H.1 - 1))) (H' := hPop H) (W2 := fun c k => (c = 77 ∧ k = 8) ∨ c = 79) hI hw2 (by rw [cur_curf]; exact wfH_pop hwH (by omega)) F1 (fun c k q => by omega) ?_ (fun c k q => by omega) hc1 hh1 ?_ ⟨h8, fun k hk => ?_⟩
      · refine gb_Fr.tr (gb_Fr.pi (by omega) hg2) (F3.up fun c k q => by omega)
      · refine mvB_cur hw hm (fun i hi => ?_) fun k hk hq => ?_
        · have hi' : i < 27 := by unfold ms_rl at hi; omega
          rw [b1 i hi', f2 _ _ (by omega), (F1 82 _ (by omega)).1]
          exact (hhm.2 (H.1 - 1) (by omega)).2 i hi' hi
        · rw [(F3 79 k (by omega)).1, f2 _ _ (by omega), (F1 79 k (by omega)).1]
      · have hk' : k < H.1 - 1 := hk
        obtain ⟨z1, z2⟩ := hhm.2 k (by omega)
        refine ⟨?_, fun i hi hr => ?_⟩
        · rw [(F3 83 _ (by omega)).1, f2 _ _ (by omega), (F1 83 _ (by omega)).1]; exact z1
        · rw [(F3 82 _ (by omega)).1, f2 _ _ (by omega), (F1 82 _ (by omega)).1]; exact z2 i hi hr
/-! ===== feed, row ===== -/
theorem bv_int (x : Int32) : ∃ z : Int, x.toInt = (x.toBitVec.toNat : Int) + 4294967296 * z ∧ x.toBitVec.toNat < 4294967296 := by
  have h1 : x.toInt = x.toBitVec.toInt := rfl
  have h2 := BitVec.toInt_eq_toNat_cond x.toBitVec
  have h3 := x.toBitVec.isLt
  rw [h1, h2]
  split
  · exact ⟨0, by omega, h3⟩
  · exact ⟨-1, by omega, h3⟩
theorem byte_e (v s : Int32) (k : Nat) (hk : k = 0 ∨ k = 8 ∨ k = 16 ∨ k = 24) (h1 : ((s &&& 31).toBitVec.smod 32).toNat = k) (h2 : ((s.toUInt32 &&& Int32.toUInt32 31).toBitVec % 32).toNat = k) : ((v.toUInt32 >>> (s.toUInt32 &&& Int32.toUInt32 31)).toInt32) &&& 255 = (v >>> (s &&& 31)) &&& 255 := by
  rw [pk_and _ 8 (by decide), pk_and _ 8 (by decide), pk_ushr v s k h2]
  have e := pk_shr v (s &&& 31) k h1
  rw [Int.shiftRight_eq_div_pow] at e
  obtain ⟨z1, a1, a2⟩ := bv_int v
  obtain ⟨z2, b1, b2⟩ := bv_int (v >>> (s &&& 31))
  congr 1
  rw [a1, b1] at e
  rcases hk with rfl | rfl | rfl | rfl <;> omega
theorem byte_b (v : Int32) : im 0 255 (v &&& 255) := by
  rw [pk_and _ 8 (by decide), im]
  show 0 ≤ (Int32.ofNat _).toInt ∧ (Int32.ofNat _).toInt ≤ 255
  rw [o_int (by omega)]
  omega
def byt (v : Int32) (j : Nat) : Int32 := (v >>> (([24, 16, 8, 0].getD j 0 : Int32) &&& 31)) &&& 255
theorem app_1 {sh : List gb_Sh} {g : gb_G} {n fuel : Nat} {v y : Int32} (h0 : g.1 43 1 = Int32.ofNat n) (hn : n < 400) (hy : ¬ y < 0) : f_X9_append_3 sh (fuel + 1) g v y = f_X9_append_3 sh fuel (gb_pi (gb_pi g 44 n (((v.toUInt32 >>> (y.toUInt32 &&& Int32.toUInt32 31)).toInt32) &&& 255)) 43 1 (Int32.ofNat (n + 1))) v (y + (-8)) := by
  rw [f_X9_append_3, if_neg hy, h0, if_neg (by rw [show (400 : Int32) = Int32.ofNat 400 from rfl, o_le (by omega) (by omega)]; omega), gb_ck_s (o_in hn (by omega)), o_cl (by omega), gb_let_s, gb_let_s, pi_n (by omega), h0, o_succ]
theorem fou_1 {sh : List gb_Sh} {g : gb_G} {n fuel : Nat} {v y : Int32} (h0 : g.1 77 13 = Int32.ofNat n) (hn : n < 400) (hy : ¬ y < 0) : f_X11_four_3 sh (fuel + 1) g v y = f_X11_four_3 sh fuel (gb_pi (gb_pi g 86 n ((v >>> (y &&& 31)) &&& 255)) 77 13 (Int32.ofNat (n + 1))) v (y + (-8)) := by
  rw [f_X11_four_3, if_neg hy, h0, gb_ck_s (o_in hn (by omega)), o_cl (by omega), gb_let_s, gb_let_s, pi_n (by omega), h0, o_succ]
theorem app_c {sh : List gb_Sh} {g : gb_G} {n : Nat} {v : Int32} (h0 : g.1 43 1 = Int32.ofNat n) (hn : n + 4 ≤ 400) : gb_T (f_X9_append sh g v) (fun o => o.1 43 1 = Int32.ofNat (n + 4) ∧ (∀ j, j < n → o.1 44 j = g.1 44 j) ∧ ∀ j, j < 4 → o.1 44 (n + j) = byt v j) := by
  unfold f_X9_append
  rw [show gb_N = 999995 + 1 + 1 + 1 + 1 + 1 from rfl, app_1 h0 (by omega) (by decide), app_1 (n := n + 1) pi_e (by omega) (by decide), app_1 (n := n + 1 + 1) pi_e (by omega) (by decide), app_1 (n := n + 1 + 1 + 1) pi_e (by omega) (by decide), f_X9_append_3, if_pos (by decide)]
  refine ⟨_, rfl, pi_e, fun j hj => ?_, fun j hj => ?_⟩
  · rw [pi_n (by omega), pi_n (by omega), pi_n (by omega), pi_n (by omega), pi_n (by omega), pi_n (by omega), pi_n (by omega), pi_n (by omega)]
  · have hj' : j = 0 ∨ j = 1 ∨ j = 2 ∨ j = 3 := by omega
    rcases hj' with rfl | rfl | rfl | rfl
    · rw [pi_n (by omega), pi_n (by omega), pi_n (by omega), pi_n (by omega), pi_n (by omega), pi_n (by omega), pi_n (by omega)]
      exact pi_e.trans (byte_e v 24 24 (by omega) (by decide) (by decide))
    · rw [pi_n (by omega), pi_n (by omega), pi_n (by omega), pi_n (by omega), pi_n (by omega)]
      exact pi_e.trans (byte_e v 16 16 (by omega) (by decide) (by decide))
    · rw [pi_n (by omega), pi_n (by omega), pi_n (by omega)]
      exact pi_e.trans (byte_e v 8 8 (by omega) (by decide) (by decide))
    · rw [pi_n (by omega)]
      exact pi_e.trans (byte_e v 0 0 (by omega) (by decide) (by decide))
theorem fou_m {sh : List gb_Sh} {g : gb_G} {n : Nat} {v : Int32} (h0 : g.1 77 13 = Int32.ofNat n) (hn : n + 4 ≤ 400) : gb_T (f_X11_four sh g v) (fun o => o.1 77 13 = Int32.ofNat (n + 4) ∧ (∀ j, j < n → o.1 86 j = g.1 86 j) ∧ ∀ j, j < 4 → o.1 86 (n + j) = byt v j) := by
  unfold f_X11_four
  rw [show gb_N = 999995 + 1 + 1 + 1 + 1 + 1 from rfl, fou_1 h0 (by omega) (by decide), fou_1 (n := n + 1) pi_e (by omega) (by decide), fou_1 (n := n + 1 + 1) pi_e (by omega) (by decide), fou_1 (n := n + 1 + 1 + 1) pi_e (by omega) (by decide), f_X11_four_3, if_pos (by decide)]
  refine ⟨_, rfl, pi_e, fun j hj => ?_, fun j hj => ?_⟩
  · rw [pi_n (by omega), pi_n (by omega), pi_n (by omega), pi_n (by omega), pi_n (by omega), pi_n (by omega), pi_n (by omega), pi_n (by omega)]
  · have hj' : j = 0 ∨ j = 1 ∨ j = 2 ∨ j = 3 := by omega
    rcases hj' with rfl | rfl | rfl | rfl
    · rw [pi_n (by omega), pi_n (by omega), pi_n (by omega), pi_n (by omega), pi_n (by omega), pi_n (by omega), pi_n (by omega)]
      exact pi_e
    · rw [pi_n (by omega), pi_n (by omega), pi_n (by omega), pi_n (by omega), pi_n (by omega)]
      exact pi_e
    · rw [pi_n (by omega), pi_n (by omega), pi_n (by omega)]
      exact pi_e
    · rw [pi_n (by omega)]
      exact pi_e
/-- what the tape holds: n bytes B -/
def cvTp (g : gb_G) (n : Nat) (B : Nat → Int32) : Prop := g.1 43 1 = Int32.ofNat n ∧ ∀ j, j < n → g.1 44 j = B j
def mvTp (g : gb_G) (n : Nat) (B : Nat → Int32) : Prop := g.1 77 13 = Int32.ofNat n ∧ ∀ j, j < n → g.1 86 j = B j
def tApp (n : Nat) (B : Nat → Int32) (v : Int32) (j : Nat) : Int32 := if j < n then B j else byt v (j - n)
theorem app_T {sh : List gb_Sh} {g : gb_G} {n : Nat} {v : Int32} {B : Nat → Int32} (h : cvTp g n B) (hn : n + 4 ≤ 400) : gb_T (f_X9_append sh g v) (fun o => cvTp o (n + 4) (tApp n B v)) := by
  obtain ⟨o, e, a, b, c⟩ := app_c (sh := sh) (v := v) h.1 hn
  refine ⟨o, e, a, fun j hj => ?_⟩
  unfold tApp
  by_cases q : j < n
  · rw [if_pos q, b j q]; exact h.2 j q
  · rw [if_neg q, ← c (j - n) (by omega), show n + (j - n) = j by omega]
theorem fou_T {sh : List gb_Sh} {g : gb_G} {n : Nat} {v : Int32} {B : Nat → Int32} (h : mvTp g n B) (hn : n + 4 ≤ 400) : gb_T (f_X11_four sh g v) (fun o => mvTp o (n + 4) (tApp n B v)) := by
  obtain ⟨o, e, a, b, c⟩ := fou_m (sh := sh) (v := v) h.1 hn
  refine ⟨o, e, a, fun j hj => ?_⟩
  unfold tApp
  by_cases q : j < n
  · rw [if_pos q, b j q]; exact h.2 j q
  · rw [if_neg q, ← c (j - n) (by omega), show n + (j - n) = j by omega]
theorem tApp_b {n : Nat} {B : Nat → Int32} {v : Int32} (h : ∀ j, j < n → im 0 255 (B j)) : ∀ j, j < n + 4 → im 0 255 (tApp n B v j) := by
  intro j hj
  unfold tApp
  split
  · exact h j (by omega)
  · exact byte_b _
theorem p_feed : ps_feed gb_I := by
  intro sh g x1 x2 x3 x4 x5 hI
  obtain ⟨n, hn, t1, t2, t3⟩ := hI.2.2.2.2.2.1
  by_cases q : n + 20 ≤ 400
  · have hc0 : cvTp g n (g.1 86) := ⟨t1, fun j hj => (t3 j hj).1⟩
    obtain ⟨o1, e1, T1⟩ := app_T (sh := sh) (v := x1) hc0 (by omega)
    obtain ⟨o2, e2, T2⟩ := app_T (sh := sh) (v := x2) T1 (by omega)
    obtain ⟨o3, e3, T3⟩ := app_T (sh := sh) (v := x3) T2 (by omega)
    obtain ⟨o4, e4, T4⟩ := app_T (sh := sh) (v := x4) T3 (by omega)
    obtain ⟨o5, e5, T5⟩ := app_T (sh := sh) (v := x5) T4 (by omega)
    have r1 : f_X10_feed sh g x1 x2 x3 x4 x5 = some (o5, Int32.ofNat (n + 4 + 4 + 4 + 4 + 4)) := by
      unfold f_X10_feed
      rw [t1, show (20 : Int32) = Int32.ofNat 20 from rfl, o_add, if_pos (by rw [show (400 : Int32) = Int32.ofNat 400 from rfl, o_le (by omega) (by omega)]; omega), e1, gb_bd_s, e2, gb_bd_s, e3, gb_bd_s, e4, gb_bd_s, e5, gb_bd_s, T5.1]
    have F1 := w_X10_feed r1
    have hm0 : mvTp (gb_pi o5 77 0 0) n (g.1 86) := ⟨(pi_n (by omega)).trans ((F1 77 13 (by omega)).1.trans t2), fun j hj => (pi_n (by omega)).trans (F1 86 j (by omega)).1⟩
    obtain ⟨m1, f1, M1⟩ := fou_T (sh := sh) (v := x1) hm0 (by omega)
    obtain ⟨m2, f2, M2⟩ := fou_T (sh := sh) (v := x2) M1 (by omega)
    obtain ⟨m3, f3, M3⟩ := fou_T (sh := sh) (v := x3) M2 (by omega)
    obtain ⟨m4, f4, M4⟩ := fou_T (sh := sh) (v := x4) M3 (by omega)
    obtain ⟨m5, f5, M5⟩ := fou_T (sh := sh) (v := x5) M4 (by omega)
    have r2 : f_X11_feed sh o5 x1 x2 x3 x4 x5 = some (m5, Int32.ofNat (n + 4 + 4 + 4 + 4 + 4)) := by
      unfold f_X11_feed
      rw [gb_let_s, hm0.1, show (20 : Int32) = Int32.ofNat 20 from rfl, o_add, if_pos (by rw [show (400 : Int32) = Int32.ofNat 400 from rfl, o_le (by omega) (by omega)]; omega), f1, gb_bd_s, f2, gb_bd_s, f3, gb_bd_s, f4, gb_bd_s, f5, gb_bd_s, M5.1]
    have F2 := w_X11_feed r2
    have F := fr2 F1 F2
    refine ⟨_, _, r1, r2, rfl, ?_⟩
    obtain ⟨hS, ⟨h1, h2⟩, h3, h4, h5, h6, h7, h8, β, h9, h10⟩ := hI
    have b5 := tApp_b (v := x5) (tApp_b (v := x4) (tApp_b (v := x3) (tApp_b (v := x2) (tApp_b (v := x1) (fun j hj => by rw [← (t3 j hj).1]; exact (t3 j hj).2)))))
    have hT : iT m5 := ⟨n + 4 + 4 + 4 + 4 + 4, by omega, (F2 43 1 (by omega)).1.trans T5.1, M5.1, fun j hj => by
      rw [(F2 44 j (by omega)).1, T5.2 j hj, M5.2 j hj]; exact ⟨rfl, b5 j hj⟩⟩
    exact ⟨hS, ⟨mvC_fr h1 fun c k q => F c k (by omega) (by omega), (F 77 20 (by omega) (by omega)).1.trans h2⟩, iF_fr h3 fun c k q => F c k (by omega) (by omega), iM_fr h4 fun c k q => F c k (by omega) (by omega), iR_fr h5 fun c k q => F c k (by omega) (by omega), hT, iD_fr h7 fun c k q => F c k (by omega) (by omega), iI_fr h8 fun c k q => F c k (by omega) (by omega), β, iB_fr h9 fun c k q => F c k (by omega) (by omega), iU_fr h9.1.1 h10 fun c k q => F c k (by omega) (by omega)⟩
  · refine ⟨(g, -1), (gb_pi g 77 0 0, -1), ?_, ?_, rfl, I770 hI⟩
    · unfold f_X10_feed
      rw [t1, show (20 : Int32) = Int32.ofNat 20 from rfl, o_add, if_neg (by rw [show (400 : Int32) = Int32.ofNat 400 from rfl, o_le (by omega) (by omega)]; omega)]
    · show f_X11_feed sh g _ _ _ _ _ = _
      unfold f_X11_feed
      rw [gb_let_s, show (gb_pi g 77 0 0).1 77 13 = g.1 77 13 from pi_n (by omega), t2, show (20 : Int32) = Int32.ofNat 20 from rfl, o_add, if_neg (by rw [show (400 : Int32) = Int32.ofNat 400 from rfl, o_le (by omega) (by omega)]; omega)]
/-! ===== row ===== -/
def rowQ (n : Nat) (B : Nat → Int32) (β : ms_B) (k : Nat) : Prop := 4 * k + 4 ≤ n ∧ bN β < 8 ∧ gQ (B (4 * k)) (B (4 * k + 1)) (B (4 * k + 2)) (B (4 * k + 3)) 0
def rowA (B : Nat → Int32) (β : ms_B) (k : Nat) : ms_B := bAdd β fun b => [B (4 * k), B (4 * k + 1), B (4 * k + 2), B (4 * k + 3), 0, 0, -1].getD b 0
noncomputable def rowS (n : Nat) (B : Nat → Int32) (β : ms_B) : Nat → ms_B × Nat × Nat
  | 0 => (β, 0, 0)
  | k + 1 => @ite _ (rowQ n B (rowS n B β k).1 k) (Classical.propDecidable _) (rowA B (rowS n B β k).1 k, (rowS n B β k).2.1 + 1, (rowS n B β k).2.2) ((rowS n B β k).1, (rowS n B β k).2.1, (rowS n B β k).2.2 + 1)
theorem rowS_t {n k : Nat} {B : Nat → Int32} {β : ms_B} (h : rowQ n B (rowS n B β k).1 k) : rowS n B β (k + 1) = (rowA B (rowS n B β k).1 k, (rowS n B β k).2.1 + 1, (rowS n B β k).2.2) := by
  rw [rowS, if_pos h]
theorem rowS_f {n k : Nat} {B : Nat → Int32} {β : ms_B} (h : ¬ rowQ n B (rowS n B β k).1 k) : rowS n B β (k + 1) = ((rowS n B β k).1, (rowS n B β k).2.1, (rowS n B β k).2.2 + 1) := by
  rw [rowS, if_neg h]
theorem rowS_w {n : Nat} {B : Nat → Int32} {β : ms_B} (hw : wfB β) : ∀ k, wfB (rowS n B β k).1 ∧ (rowS n B β k).2.1 ≤ k ∧ (rowS n B β k).2.2 ≤ k := by
  intro k
  induction k with
  | zero => exact ⟨hw, Nat.le_refl _, Nat.le_refl _⟩
  | succ k ih =>
    by_cases h : rowQ n B (rowS n B β k).1 k
    · rw [rowS_t h]
      obtain ⟨q1, q2, q3⟩ := h
      exact ⟨wfB_add ih.1 q2 q3.1 q3.2.1 q3.2.2.1 q3.2.2.2.1 q3.2.2.2.2, by show _ + 1 ≤ _; omega, by show _ ≤ _; omega⟩
    · rw [rowS_f h]
      exact ⟨ih.1, by show _ ≤ _; omega, by show _ + 1 ≤ _; omega⟩
theorem bA_t {sh : List gb_Sh} {g : gb_G} {n i : Nat} {B : Nat → Int32} (hn : n ≤ 400) (h : cvTp g n B) (hi : i < n) : f_X9_byteAt sh g (Int32.ofNat i) = some (g, B i) := by
  unfold f_X9_byteAt
  rw [if_neg (by rw [show (0 : Int32) = Int32.ofNat 0 from rfl, o_lt (by omega) (by omega)]; omega), h.1, if_neg (by rw [o_le (by omega) (by omega)]; omega), if_neg (by rw [show (400 : Int32) = Int32.ofNat 400 from rfl, o_le (by omega) (by omega)]; omega), gb_ck_s (o_in (by omega) (by omega)), o_cl (by omega), h.2 i hi]
theorem bA_f {sh : List gb_Sh} {g : gb_G} {n : Nat} {x : Int32} {B : Nat → Int32} (hn : n ≤ 400) (h : cvTp g n B) (hx : ¬ im 0 ((n : Int) - 1) x) : f_X9_byteAt sh g x = some (g, -1) := by
  unfold f_X9_byteAt
  by_cases h1 : x < 0
  · rw [if_pos h1]
  · rw [if_neg h1, if_pos]
    rw [h.1, Int32.le_iff_toInt_le, o_int (by omega)]
    rw [Int32.lt_iff_toInt_lt, Int32.toInt_zero] at h1
    rw [im] at hx
    omega
theorem aft_t {sh : List gb_Sh} {g : gb_G} {n k : Nat} {B : Nat → Int32} {β : ms_B} (hn : n ≤ 400) (hT : cvTp g n B) (hc : cvB sh g 1 β) (hq : rowQ n B β k) : gb_T (f_X10_addFromTape sh g (Int32.ofNat (4 * k))) (fun o => o.2 = 1 ∧ cvB sh o.1 1 (rowA B β k)) := by
  obtain ⟨q1, q2, q3⟩ := hq
  unfold f_X10_addFromTape
  rw [hT.1, show (4 : Int32) = Int32.ofNat 4 from rfl, o_add, if_neg (by rw [o_lt (by omega) (by omega)]; omega), hc.1, if_pos (by rw [show (8 : Int32) = Int32.ofNat 8 from rfl, o_lt (by omega) (by omega)]; omega), bA_t hn hT (by omega), gb_bd_s]
  simp only []
  rw [show Int32.ofNat (4 * k) + 1 = Int32.ofNat (4 * k + 1) from o_add _ 1, show Int32.ofNat (4 * k) + 2 = Int32.ofNat (4 * k + 2) from o_add _ 2, show Int32.ofNat (4 * k) + 3 = Int32.ofNat (4 * k + 3) from o_add _ 3, bA_t hn hT (by omega), gb_bd_s]
  simp only []
  rw [bA_t hn hT (by omega), gb_bd_s]
  simp only []
  rw [bA_t hn hT (by omega), gb_bd_s, cb_t ⟨q3.1, q3.2.1, q3.2.2.1, q3.2.2.2.1⟩, bt]
  obtain ⟨o, e, a, b⟩ := add_c (sh := sh) (x1 := B (4 * k)) (x2 := B (4 * k + 1)) (x3 := B (4 * k + 2)) (x4 := B (4 * k + 3)) (x5 := 0) q2 hc
  refine gb_T.bs e ?_
  exact ⟨_, rfl, rfl, b⟩
theorem aft_f {sh : List gb_Sh} {g : gb_G} {n k : Nat} {B : Nat → Int32} {β : ms_B} (hn : n ≤ 400) (hk : 4 * k < n) (hw : wfB β) (hT : cvTp g n B) (hc : cvB sh g 1 β) (hq : ¬ rowQ n B β k) : f_X10_addFromTape sh g (Int32.ofNat (4 * k)) = some (g, 0) := by
  have hn8 := hw.1
  unfold f_X10_addFromTape
  rw [hT.1, show (4 : Int32) = Int32.ofNat 4 from rfl, o_add]
  by_cases q1 : 4 * k + 4 ≤ n
  · rw [if_neg (by rw [o_lt (by omega) (by omega)]; omega), hc.1]
    by_cases q2 : bN β < 8
    · rw [if_pos (by rw [show (8 : Int32) = Int32.ofNat 8 from rfl, o_lt (by omega) (by omega)]; omega), bA_t hn hT (by omega), gb_bd_s]
      simp only []
      rw [show Int32.ofNat (4 * k) + 1 = Int32.ofNat (4 * k + 1) from o_add _ 1, show Int32.ofNat (4 * k) + 2 = Int32.ofNat (4 * k + 2) from o_add _ 2, show Int32.ofNat (4 * k) + 3 = Int32.ofNat (4 * k + 3) from o_add _ 3, bA_t hn hT (by omega), gb_bd_s]
      simp only []
      rw [bA_t hn hT (by omega), gb_bd_s]
      simp only []
      rw [bA_t hn hT (by omega), gb_bd_s, cb_f (fun z => hq ⟨q1, q2, z.1, z.2.1, z.2.2.1, z.2.2.2, by decide⟩), bf]
    · rw [if_neg (by rw [show (8 : Int32) = Int32.ofNat 8 from rfl, o_lt (by omega) (by omega)]; omega)]
  · rw [if_pos (by rw [o_lt (by omega) (by omega)]; omega)]
theorem row_c {sh : List gb_Sh} {n T : Nat} {B : Nat → Int32} {β : ms_B} {R : Nat → Int32} (hn : n ≤ 400) (hT4 : n ≤ 4 * T) (hT5 : 4 * T < n + 4) (hw : wfB β) : ∀ (m k fuel : Nat) (g : gb_G), k + m = T → m < fuel → cvTp g n B → cvB sh g 1 (rowS n B β k).1 → g.1 0 16 = Int32.ofNat (rowS n B β k).2.2 → (∀ k, g.1 76 k = R k) → gb_T (f_X10_row_26 sh fuel g (Int32.ofNat (rowS n B β k).2.1) (Int32.ofNat (4 * k))) (fun o => o.2 = Int32.ofNat (rowS n B β T).2.1 ∧ cvB sh o.1 1 (rowS n B β T).1 ∧ o.1.1 0 16 = Int32.ofNat (rowS n B β T).2.2 ∧ o.1.1 43 1 = 0 ∧ o.1.1 33 0 = 0 ∧ o.1.1 0 18 = 0 ∧ ∀ k, o.1.1 76 k = R k) := by
  intro m
  induction m with
  | zero =>
    intro k fuel g h hf hT hc h16 h76
    obtain ⟨f, rfl⟩ : ∃ f, fuel = f + 1 := ⟨fuel - 1, by omega⟩
    have e : k = T := by omega
    subst e
    rw [f_X10_row_26, if_pos (by rw [hT.1, o_le (by omega) (by omega)]; omega), gb_let_s]
    refine ⟨(gb_pi (gb_pi (gb_pi g 43 1 0) 33 0 0) 0 18 0, Int32.ofNat (rowS n B β k).2.1), rfl, rfl, ?_, ?_, ?_, ?_, ?_, fun q => ?_⟩
    · exact cvB_fr hc fun c k q => ⟨(pi_n (by omega)).trans ((pi_n (by omega)).trans (pi_n (by omega))), rfl, rfl⟩
    · exact (pi_n (by omega)).trans ((pi_n (by omega)).trans ((pi_n (by omega)).trans h16))
    · exact (pi_n (by omega)).trans ((pi_n (by omega)).trans pi_e)
    · exact (pi_n (by omega)).trans pi_e
    · exact pi_e
    · exact (pi_n (by omega)).trans ((pi_n (by omega)).trans ((pi_n (by omega)).trans (h76 q)))
  | succ m ih =>
    intro k fuel g h hf hT hc h16 h76
    obtain ⟨f, rfl⟩ : ∃ f, fuel = f + 1 := ⟨fuel - 1, by omega⟩
    have hk : 4 * k < n := by omega
    rw [f_X10_row_26, if_neg (by rw [hT.1, o_le (by omega) (by omega)]; omega)]
    have e4 : Int32.ofNat (4 * k) + 4 = Int32.ofNat (4 * (k + 1)) := o_add (4 * k) 4
    by_cases q : rowQ n B (rowS n B β k).1 k
    · obtain ⟨o, e, a, b⟩ := aft_t (sh := sh) hn hT hc q
      have F := w_X10_addFromTape e
      refine gb_T.bs e ?_
      rw [a, if_neg (by decide)]
      unfold f_X10_row_61
      rw [e4, o_succ]
      have ih2 := ih (k + 1) f o.1 (by omega) (by omega) ⟨(F 43 1 (by omega)).1.trans hT.1, fun j hj => (F 44 j (by omega)).1.trans (hT.2 j hj)⟩
      rw [rowS_t q] at ih2
      exact ih2 b ((F 0 16 (by omega)).1.trans h16) (fun q => (F 76 q (by omega)).1.trans (h76 q))
    · rw [aft_f hn hk (rowS_w hw k).1 hT hc q, bf, gb_let_s]
      unfold f_X10_row_61
      rw [e4, h16, o_succ]
      have ih2 := ih (k + 1) f (gb_pi g 0 16 (Int32.ofNat ((rowS n B β k).2.2 + 1))) (by omega) (by omega) ⟨(pi_n (by omega)).trans hT.1, fun j hj => (pi_n (by omega)).trans (hT.2 j hj)⟩
      rw [rowS_f q] at ih2
      exact ih2 (cvB_fr hc fun c k q => ⟨pi_n (by omega), rfl, rfl⟩) pi_e (fun q => (pi_n (by omega)).trans (h76 q))
theorem row_m {sh : List gb_Sh} {n T : Nat} {B : Nat → Int32} {β : ms_B} {R : Nat → Int32} (hn : n ≤ 400) (hT4 : n ≤ 4 * T) (hT5 : 4 * T < n + 4) (hw : wfB β) : ∀ (m k fuel : Nat) (g : gb_G), k + m = T → m < fuel → (∀ j, j < n → g.1 86 j = B j) → mvB (g.1 79) (rowS n B β k).1 → g.1 77 11 = Int32.ofNat (rowS n B β k).2.2 → (∀ k, g.1 78 k = R k) → g.1 77 13 = 0 → gb_T (f_X11_row_35 sh fuel g (Int32.ofNat n) (Int32.ofNat (rowS n B β k).2.1) (Int32.ofNat (4 * k))) (fun o => o.2 = Int32.ofNat (rowS n B β T).2.1 ∧ mvB (o.1.1 79) (rowS n B β T).1 ∧ o.1.1 77 11 = Int32.ofNat (rowS n B β T).2.2 ∧ o.1.1 77 8 = 0 ∧ o.1.1 77 1 = 0 ∧ (∀ k, o.1.1 78 k = R k) ∧ o.1.1 77 13 = 0) := by
  intro m
  induction m with
  | zero =>
    intro k fuel g h hf hT hm h11 h78 h13
    obtain ⟨f, rfl⟩ : ∃ f, fuel = f + 1 := ⟨fuel - 1, by omega⟩
    have e : k = T := by omega
    subst e
    have hcm := (rowS_w (n := n) (B := B) hw k).2.1
    rw [f_X11_row_35, if_pos (by rw [o_le (by omega) (by omega)]; omega), se_p (by rw [o_int (by omega)]; omega), gb_bd_s]
    exact ⟨_, rfl, rfl, hm, (pi_n (by omega)).trans ((pi_n (by omega)).trans h11), (pi_n (by omega)).trans pi_e, pi_e, fun q => (pi_n (by omega)).trans ((pi_n (by omega)).trans (h78 q)), (pi_n (by omega)).trans ((pi_n (by omega)).trans h13)⟩
  | succ m ih =>
    intro k fuel g h hf hT hm h11 h78 h13
    obtain ⟨f, rfl⟩ : ∃ f, fuel = f + 1 := ⟨fuel - 1, by omega⟩
    have hk : 4 * k < n := by omega
    have hwk := (rowS_w (n := n) (B := B) hw k).1
    have hn8 := hwk.1
    rw [f_X11_row_35, if_neg (by rw [o_le (by omega) (by omega)]; omega), show Int32.ofNat (4 * k) + 1 = Int32.ofNat (4 * k + 1) from o_add _ 1, show Int32.ofNat (4 * k) + 2 = Int32.ofNat (4 * k + 2) from o_add _ 2, show Int32.ofNat (4 * k) + 3 = Int32.ofNat (4 * k + 3) from o_add _ 3]
    have e4 : Int32.ofNat (4 * k) + 4 = Int32.ofNat (4 * (k + 1)) := o_add (4 * k) 4
    have hfl : ¬ rowQ n B (rowS n B β k).1 k → gb_T (f_X11_row_91 sh (fun w w0 w1 w2 => f_X11_row_101 sh (fun w w0 w1 w2 => f_X11_row_35 sh f w w0 w1 w2) w w0 w1 w2) g (Int32.ofNat n) (Int32.ofNat (rowS n B β k).2.1) (Int32.ofNat (4 * k))) (fun o => o.2 = Int32.ofNat (rowS n B β T).2.1 ∧ mvB (o.1.1 79) (rowS n B β T).1 ∧ o.1.1 77 11 = Int32.ofNat (rowS n B β T).2.2 ∧ o.1.1 77 8 = 0 ∧ o.1.1 77 1 = 0 ∧ (∀ k, o.1.1 78 k = R k) ∧ o.1.1 77 13 = 0) := by
      intro q
      unfold f_X11_row_91 f_X11_row_101
      rw [gb_let_s, h11, o_succ, e4]
      have ih2 := ih (k + 1) f (gb_pi g 77 11 (Int32.ofNat ((rowS n B β k).2.2 + 1))) (by omega) (by omega) (fun j hj => (pi_n (by omega)).trans (hT j hj))
      rw [rowS_f q] at ih2
      exact ih2 hm pi_e (fun q => (pi_n (by omega)).trans (h78 q)) ((pi_n (by omega)).trans h13)
    by_cases q1 : 4 * k + 4 ≤ n
    · rw [if_neg (by rw [o_le (by omega) (by omega)]; omega), gb_ck_s (o_in (by omega) (by omega)), gb_ck_s (o_in (by omega) (by omega)), gb_ck_s (o_in (by omega) (by omega)), gb_ck_s (o_in (by omega) (by omega)), o_cl (by omega), o_cl (by omega), o_cl (by omega), o_cl (by omega), hT _ (by omega), hT _ (by omega), hT _ (by omega), hT _ (by omega)]
      by_cases q3 : gQ (B (4 * k)) (B (4 * k + 1)) (B (4 * k + 2)) (B (4 * k + 3)) 0
      · by_cases q2 : bN (rowS n B β k).1 < 8
        · obtain ⟨o, e, a, b⟩ := come_m (sh := sh) hwk q2 hm q3.1 q3.2.1 q3.2.2.1 q3.2.2.2.1 q3.2.2.2.2
          have F := w_X11_come e
          refine gb_T.bs e ?_
          rw [a, if_neg (by rw [show (0 : Int32) = Int32.ofNat 0 from rfl, o_lt (by omega) (by omega)]; omega)]
          unfold f_X11_row_101
          rw [o_succ, e4]
          have ih2 := ih (k + 1) f o.1 (by omega) (by omega) (fun j hj => (F 86 j (by omega)).1.trans (hT j hj))
          rw [rowS_t ⟨q1, q2, q3⟩] at ih2
          exact ih2 b ((F 77 11 (by omega)).1.trans h11) (fun q => (F 78 q (by omega)).1.trans (h78 q)) ((F 77 13 (by omega)).1.trans h13)
        · rw [come_8 q3 (by rw [hm.1, show bN (rowS n B β k).1 = 8 by omega]; rfl), gb_bd_s]
          simp only []
          rw [if_pos (by decide)]
          exact hfl fun z => q2 z.2.1
      · rw [come_f q3, gb_bd_s]
        simp only []
        rw [if_pos (by decide)]
        exact hfl fun z => q3 z.2.2
    · rw [if_pos (by rw [o_le (by omega) (by omega)]; omega)]
      exact hfl fun z => q1 z.1
theorem wfH_0 {H : ms_H} {n : Nat} {c : Nat → Int32} (h : H.1 = 0) : wfH H n c := ⟨by omega, fun k hk => by omega⟩
theorem p_row : ps_row gb_I := by
  intro sh g hI
  have hI0 := hI
  obtain ⟨hS, ⟨h1, h2⟩, h3, h4, h5, ⟨n, hn, t1, t2, t3⟩, h7, h8, β, ⟨hw, hc, hm⟩, h10⟩ := hI0
  by_cases hz : n = 0
  · subst hz
    refine rf_b (fun g => f_X11_row sh g) (-6) 6 (by omega) rfl (by decide) hI ?_ fun g1 e1 e2 _ => ?_
    · unfold f_X10_row
      rw [if_pos (by rw [t1]; rfl)]
    · show f_X11_row sh g1 = _
      have z : (gb_pi g1 77 0 0).1 77 13 = 0 := by rw [pi_n (by omega), e2, t2]; rfl
      have e3 : gb_pi (gb_pi g1 77 0 0) 77 13 0 = gb_pi g1 77 0 0 := by
        have := pi_same (g := gb_pi g1 77 0 0) (c := 77) (j := 13)
        rw [z] at this
        exact this
      unfold f_X11_row
      rw [gb_let_s, gb_let_s, if_pos z, e3]
  · have hT : ∃ T, n ≤ 4 * T ∧ 4 * T < n + 4 := ⟨(n + 3) / 4, by omega, by omega⟩
    obtain ⟨T, hT4, hT5⟩ := hT
    obtain ⟨o1, e1, v1, c1, k1, l1, u1, s1, r76⟩ := row_c (sh := sh) (n := n) (B := g.1 86) (β := β) hn hT4 hT5 hw T 0 gb_N (gb_pi g 0 16 0) (by omega) (by unfold gb_N; omega) ⟨(pi_n (by omega)).trans t1, fun j hj => (pi_n (by omega)).trans (t3 j hj).1⟩ (cvB_fr hc fun c k q => ⟨pi_n (by omega), rfl, rfl⟩) pi_e (R := g.1 76) (fun q => pi_n (by omega))
    have r1 : f_X10_row sh g = some o1 := by
      unfold f_X10_row
      rw [if_neg (fun q => hz (by rw [t1] at q; exact o_inj (j := 0) (by omega) (by omega) q)), gb_let_s]
      exact e1
    have F1 := w_X10_row r1
    obtain ⟨g3, hg3⟩ : ∃ q, q = gb_pi (gb_pi (gb_pi o1.1 77 0 0) 77 13 0) 77 11 0 := ⟨_, rfl⟩
    have f3 : ∀ c k, ¬ (c = 77 ∧ (k = 0 ∨ k = 13 ∨ k = 11)) → g3.1 c k = o1.1.1 c k := fun c k q => by rw [hg3, pi_n (by omega), pi_n (by omega), pi_n (by omega)]
    obtain ⟨o2, e2, v2, m2, k2, u2, s2, r78, l2⟩ := row_m (sh := sh) (n := n) (B := g.1 86) (β := β) hn hT4 hT5 hw T 0 gb_N g3 (by omega) (by unfold gb_N; omega) (fun j hj => (f3 _ _ (by omega)).trans (F1 86 j (by omega)).1) (mvB_fr hm hw fun k _ => (f3 _ _ (by omega)).trans (F1 79 k (by omega)).1) (by rw [hg3]; exact pi_e) (R := g.1 78) (fun q => (f3 _ _ (by omega)).trans (F1 78 q (by omega)).1) (by rw [hg3, pi_n (by omega), pi_e])
    have r2 : f_X11_row sh o1.1 = some o2 := by
      unfold f_X11_row
      rw [gb_let_s, gb_let_s, pi_n (show ¬ ((77 : Nat) = 77 ∧ (13 : Nat) = 0) by omega), (F1 77 13 (by omega)).1, t2, if_neg (fun q => hz (o_inj (j := 0) (by omega) (by omega) q)), gb_let_s, ← hg3]
      exact e2
    have F2 := w_X11_row r2
    have F := fr2 F1 F2
    refine ⟨o1, o2, r1, r2, v1.trans v2.symm, ?_⟩
    have hwT := (rowS_w (n := n) (B := g.1 86) hw T).1
    refine gI_mk (β' := (rowS n (g.1 86) β T).1) (H' := (0, (fun _ => 0), (fun _ => 0), fun _ _ => 0)) hI (fun c k q => F c k (by omega) (by omega)) ⟨?_, ?_, ?_, ?_⟩ (fun q hq => by rw [(F2 76 q (by omega)).1, r76 q, r78 q]; exact h5 q hq) ⟨0, by omega, (F2 43 1 (by omega)).1.trans l1, l2, fun j hj => by omega⟩ hwT (cvB_fr c1 fun c k q => F2 c k (by omega)) m2 ⟨(F2 33 0 (by omega)).1.trans u1, fun k hk => absurd hk (Nat.not_lt_zero _)⟩ ⟨u2, fun k hk => absurd hk (Nat.not_lt_zero _)⟩ (wfH_0 rfl)
    · exact (F 0 15 (by omega) (by omega)).1.trans (h4.1.trans (F 77 18 (by omega) (by omega)).1.symm)
    · exact (F2 0 16 (by omega)).1.trans (k1.trans k2.symm)
    · exact (F 0 17 (by omega) (by omega)).1.trans (h4.2.2.1.trans (F 77 51 (by omega) (by omega)).1.symm)
    · exact (F2 0 18 (by omega)).1.trans (s1.trans s2.symm)
/-! ===== image, back ===== -/
theorem pr_e {g : gb_G} {c j : Nat} {x : Option Nat} : (gb_pr g c j x).2.2 c j = x := by simp [gb_pr, gb_pz, va_up]
theorem pr_n {g : gb_G} {c j c' k : Nat} {x : Option Nat} (h : ¬ (c' = c ∧ k = j)) : (gb_pr g c j x).2.2 c' k = g.2.2 c' k := by
  by_cases hc : c' = c
  · have hk : ¬ k = j := fun q => h ⟨hc, q⟩
    subst hc
    simp [gb_pr, gb_pz, va_up, hk]
  · simp [gb_pr, gb_pz, hc]
theorem oq_s {β : Type} {sh : List gb_Sh} {w : Option Nat} {b : Option β} (h : ∀ a, w = some a → gb_okX7 sh a) : gb_oq sh w b = b := by
  cases w with
  | none => rfl
  | some a => exact gdX7_s (h a rfl)
theorem gdX0_s {α : Type} {sh : List gb_Sh} {p : Nat} {r : Option α} (h : gb_okX0 sh p) : gb_gdX0 sh p r = r := by
  unfold gb_gdX0
  rw [if_pos h]
theorem cp93 {sh : List gb_Sh} {b b1 : Nat} (hb : b + 5 < b1 ∨ b1 + 5 < b) : ∀ (m k fuel : Nat) (g : gb_G), k + m = 6 → m < fuel → (∀ j a, j < 6 → g.2.2 (b1 + 5) j = some a → gb_okX7 sh a) → gb_T (f_X0_copyFrom_93 sh b b1 fuel g (Int32.ofNat k)) (fun o => o.1 b 9 = g.1 b1 9 ∧ (∀ j, k ≤ j → j < 6 → o.2.2 (b + 5) j = g.2.2 (b1 + 5) j) ∧ (∀ j, j < k → o.2.2 (b + 5) j = g.2.2 (b + 5) j) ∧ ∀ c j, ¬ (c = b ∧ j = 9) → o.1 c j = g.1 c j) := by
  intro m
  induction m with
  | zero =>
    intro k fuel g h hf h1
    obtain ⟨f, rfl⟩ : ∃ f, fuel = f + 1 := ⟨fuel - 1, by omega⟩
    have e : k = 6 := by omega
    subst e
    rw [f_X0_copyFrom_93, if_pos (by decide), gb_let_s]
    exact ⟨_, rfl, pi_e, fun j a b => by omega, fun j _ => rfl, fun c j q => pi_n q⟩
  | succ m ih =>
    intro k fuel g h hf h1
    obtain ⟨f, rfl⟩ : ∃ f, fuel = f + 1 := ⟨fuel - 1, by omega⟩
    rw [f_X0_copyFrom_93, if_neg (by rw [show (6 : Int32) = Int32.ofNat 6 from rfl, o_le (by omega) (by omega)]; omega), gb_ck_s (o_in (by omega) (by omega)), gb_ck_s (o_in (by omega) (by omega)), o_cl (by omega), oq_s (fun a => h1 k a (by omega)), gb_let_s, o_succ]
    obtain ⟨o, e, a1, a2, a3, a4⟩ := ih (k + 1) f (gb_pr g (b + 5) k (g.2.2 (b1 + 5) k)) (by omega) (by omega) (fun j a hj hq => h1 j a hj (by rw [pr_n (by omega)] at hq; exact hq))
    refine ⟨o, e, a1, fun j q1 q2 => ?_, fun j q1 => ?_, a4⟩
    · by_cases ej : j = k
      · subst ej; rw [a3 j (by omega), pr_e]
      · rw [a2 j (by omega) q2, pr_n (by omega)]
    · rw [a3 j (by omega), pr_n (by omega)]
theorem cpB {sh : List gb_Sh} {g : gb_G} {b b1 : Nat} {β : ms_B} (hw : wfB β) (hb : b + 5 < b1 ∨ b1 + 5 < b) (hb0 : b + 5 < 105) (hc : cvB sh g b1 β) (hF : ∀ j a, j < 6 → g.2.2 (b1 + 5) j = some a → gb_okX7 sh a) : gb_T (f_X0_copyFrom sh g b b1) (fun o => cvB sh o b β ∧ ∀ j, j < 6 → o.2.2 (b + 5) j = g.2.2 (b1 + 5) j) := by
  have w0 := hw.1
  have w1 := hw.2.1
  have w2 := hw.2.2.1
  have w3 := hw.2.2.2.1
  have t0 : (0 : Int32).toNatClampNeg = 0 := by decide
  have t3 : (3 : Int32).toNatClampNeg = 3 := by decide
  have t12 : (12 : Int32).toNatClampNeg = 12 := by decide
  have t40 : (40 : Int32).toNatClampNeg = 40 := by decide
  have t56 : (56 : Int32).toNatClampNeg = 56 := by decide
  obtain ⟨g1, hg1⟩ : ∃ q, q = gb_pi g b 0 (g.1 b1 0) := ⟨_, rfl⟩
  obtain ⟨g2, hg2⟩ : ∃ q, q = gb_pa g1 (b + 1) (va_cpy (g1.1 (b1 + 1)) (g1.1 (b + 1)) 0 0 56) := ⟨_, rfl⟩
  obtain ⟨g3, hg3⟩ : ∃ q, q = gb_pi g2 b 2 (g2.1 b1 2) := ⟨_, rfl⟩
  obtain ⟨g4, hg4⟩ : ∃ q, q = gb_pa g3 (b + 2) (va_cpy (g3.1 (b1 + 2)) (g3.1 (b + 2)) 0 0 40) := ⟨_, rfl⟩
  obtain ⟨g5, hg5⟩ : ∃ q, q = gb_pi g4 b 4 (g4.1 b1 4) := ⟨_, rfl⟩
  obtain ⟨g6, hg6⟩ : ∃ q, q = gb_pa g5 (b + 3) (va_cpy (g5.1 (b1 + 3)) (g5.1 (b + 3)) 0 0 12) := ⟨_, rfl⟩
  obtain ⟨g7, hg7⟩ : ∃ q, q = gb_pa g6 (b + 4) (va_cpy (g6.1 (b1 + 4)) (g6.1 (b + 4)) 0 0 3) := ⟨_, rfl⟩
  obtain ⟨g8, hg8⟩ : ∃ q, q = gb_pi g7 b 7 (g7.1 b1 7) := ⟨_, rfl⟩
  have S1 : ∀ c k, ¬ (c = b ∧ k = 0) → g1.1 c k = g.1 c k := fun c k q => by rw [hg1]; exact pi_n q
  have S2 : ∀ c k, ¬ c = b + 1 → g2.1 c k = g1.1 c k := fun c k q => by rw [hg2]; exact pa_n q
  have S3 : ∀ c k, ¬ (c = b ∧ k = 2) → g3.1 c k = g2.1 c k := fun c k q => by rw [hg3]; exact pi_n q
  have S4 : ∀ c k, ¬ c = b + 2 → g4.1 c k = g3.1 c k := fun c k q => by rw [hg4]; exact pa_n q
  have S5 : ∀ c k, ¬ (c = b ∧ k = 4) → g5.1 c k = g4.1 c k := fun c k q => by rw [hg5]; exact pi_n q
  have S6 : ∀ c k, ¬ c = b + 3 → g6.1 c k = g5.1 c k := fun c k q => by rw [hg6]; exact pa_n q
  have S7 : ∀ c k, ¬ c = b + 4 → g7.1 c k = g6.1 c k := fun c k q => by rw [hg7]; exact pa_n q
  have S8 : ∀ c k, ¬ (c = b ∧ k = 7) → g8.1 c k = g7.1 c k := fun c k q => by rw [hg8]; exact pi_n q
  have R8 : g8.2.2 = g.2.2 := by rw [hg8, hg7, hg6, hg5, hg4, hg3, hg2, hg1]; rfl
  obtain ⟨o, e, a1, a2, a3, a4⟩ := cp93 (sh := sh) hb 6 0 gb_N g8 (by omega) (by unfold gb_N; omega) (by rw [R8]; exact hF)
  have r : f_X0_copyFrom sh g b b1 = some o := by
    unfold f_X0_copyFrom
    rw [gb_let_s, ← hg1, gb_cp_s (by decide), t0, t56, gb_let_s, ← hg2, gb_let_s, ← hg3, gb_cp_s (by decide), t40, gb_let_s, ← hg4, gb_let_s, ← hg5, gb_cp_s (by decide), t12, gb_let_s, ← hg6, gb_cp_s (by decide), t3, gb_let_s, ← hg7, gb_let_s, ← hg8]
    exact e
  have F := w_X0_copyFrom r
  obtain ⟨c0, c1, c2, c3, c4, c5, c6, c7, c8, c9⟩ := hc
  have L : ∀ j, j < 6 → o.2.2 (b + 5) j = g.2.2 (b1 + 5) j := fun j hj => (a2 j (by omega) hj).trans (by rw [R8])
  refine ⟨o, r, ⟨?_, fun i j hi hj => ?_, ?_, fun p i hp hi => ?_, ?_, fun j hj => ?_, fun j hj => ?_, ?_, fun k lw hk => ?_, ?_⟩, L⟩
  · rw [a4 _ _ (by omega), S8 _ _ (by omega), S7 _ _ (by omega), S6 _ _ (by omega), S5 _ _ (by omega), S4 _ _ (by omega), S3 _ _ (by omega), S2 _ _ (by omega), hg1, pi_e]; exact c0
  · rw [a4 _ _ (by omega), S8 _ _ (by omega), S7 _ _ (by omega), S6 _ _ (by omega), S5 _ _ (by omega), S4 _ _ (by omega), S3 _ _ (by omega), hg2, pa_e, pk_cpy_in (by omega) (by omega), S1 _ _ (by omega), show 0 + (7 * i + j - 0) = 7 * i + j by omega]; exact c1 i j hi hj
  · rw [a4 _ _ (by omega), S8 _ _ (by omega), S7 _ _ (by omega), S6 _ _ (by omega), S5 _ _ (by omega), S4 _ _ (by omega), hg3, pi_e, S2 _ _ (by omega), S1 _ _ (by omega)]; exact c2
  · rw [a4 _ _ (by omega), S8 _ _ (by omega), S7 _ _ (by omega), S6 _ _ (by omega), S5 _ _ (by omega), hg4, pa_e, pk_cpy_in (by omega) (by omega), S3 _ _ (by omega), S2 _ _ (by omega), S1 _ _ (by omega), show 0 + (8 * p + i - 0) = 8 * p + i by omega]; exact c3 p i hp hi
  · rw [a4 _ _ (by omega), S8 _ _ (by omega), S7 _ _ (by omega), S6 _ _ (by omega), hg5, pi_e, S4 _ _ (by omega), S3 _ _ (by omega), S2 _ _ (by omega), S1 _ _ (by omega)]; exact c4
  · rw [a4 _ _ (by omega), S8 _ _ (by omega), S7 _ _ (by omega), hg6, pa_e, pk_cpy_in (by omega) (by omega), S5 _ _ (by omega), S4 _ _ (by omega), S3 _ _ (by omega), S2 _ _ (by omega), S1 _ _ (by omega), show 0 + (j - 0) = j by omega]; exact c5 j hj
  · rw [a4 _ _ (by omega), S8 _ _ (by omega), hg7, pa_e, pk_cpy_in (by omega) (by omega), S6 _ _ (by omega), S5 _ _ (by omega), S4 _ _ (by omega), S3 _ _ (by omega), S2 _ _ (by omega), S1 _ _ (by omega), show 0 + (j - 0) = j by omega]; exact c6 j hj
  · rw [a4 _ _ (by omega), hg8, pi_e, S7 _ _ (by omega), S6 _ _ (by omega), S5 _ _ (by omega), S4 _ _ (by omega), S3 _ _ (by omega), S2 _ _ (by omega), S1 _ _ (by omega)]; exact c7
  · obtain ⟨p, hp, hl⟩ := c8 k lw hk
    have := nx hk
    exact ⟨p, (L k (by omega)).trans hp, cvL_fr hl fun c k hc => F c k (by omega)⟩
  · rw [a1, S8 _ _ (by omega), S7 _ _ (by omega), S6 _ _ (by omega), S5 _ _ (by omega), S4 _ _ (by omega), S3 _ _ (by omega), S2 _ _ (by omega), S1 _ _ (by omega)]; exact c9
theorem ok_img {sh : List gb_Sh} (hS : gb_S sh) {j : Nat} (hj : j < 2) : gb_okX0 sh (20 + 6 * j) := by
  have : j = 0 ∨ j = 1 := by omega
  rcases this with rfl | rfl
  · exact ok_X0_20 hS
  · exact ok_X0_26 hS
theorem img_at {sh : List gb_Sh} {g : gb_G} (h : iI sh g) {j : Nat} (hj : j < 2) : g.2.2 19 j = some (20 + 6 * j) := by
  have : j = 0 ∨ j = 1 := by omega
  rcases this with rfl | rfl
  · exact h.1
  · exact h.2.1
theorem p_image : ps_image gb_I := by
  intro sh g x1 hI
  by_cases hx : im 0 1 x1
  · obtain ⟨j, hj, rfl⟩ := o_of (n := 2) hx
    have hI0 := hI
    obtain ⟨hS, ⟨h1, h2⟩, h3, h4, h5, h6, h7, h8, β, ⟨hw, hc, hm⟩, h10⟩ := hI0
    obtain ⟨a, e1, hc1, hL⟩ := cpB (sh := sh) (b := 20 + 6 * j) (b1 := 1) hw (by omega) (by omega) hc (fun k p hk hq => h3 6 k p (by omega) hk hq)
    have F0 := w_X0_copyFrom e1
    obtain ⟨o1, ho1⟩ : ∃ q, q = gb_pi (gb_pi a 32 j 1) 0 18 0 := ⟨_, rfl⟩
    have r1 : f_X10_image sh g (Int32.ofNat j) = some (o1, 0) := by
      unfold f_X10_image
      rw [within_t hx rfl rfl, bt, gb_ck_s (o_in hj (by omega)), o_cl (by omega)]
      simp only []
      rw [img_at h8 hj, gb_bd_s, gdX0_s (ok_img hS.1 hj), e1, gb_bd_s, gb_ck_s (o_in hj (by omega)), gb_let_s, ho1]
      rfl
    have f1 : ∀ c k, ¬ ((20 + 6 * j ≤ c ∧ c ≤ 25 + 6 * j) ∨ (c = 32 ∧ k = j) ∨ (c = 0 ∧ k = 18)) → eqc g o1 c k := fun c k q => by
      have z := F0 c k (by omega)
      rw [ho1]
      exact ⟨(pi_n (by omega)).trans ((pi_n (by omega)).trans z.1), z.2.1, z.2.2⟩
    have fa : ∀ c k, ¬ ((c = 32 ∧ k = j) ∨ (c = 0 ∧ k = 18)) → eqc a o1 c k := fun c k q => by
      rw [ho1]
      exact ⟨(pi_n (by omega)).trans (pi_n (by omega)), rfl, rfl⟩
    obtain ⟨o2, e2, b1, b2, b3, b4, F2⟩ : gb_T (f_X11_image_23 sh gb_N (gb_pi o1 77 0 0) (Int32.ofNat j) 0) (fun o => o.2 = 0 ∧ (∀ k, k < 5520 → o.1.1 80 (5520 * j + k) = g.1 79 k) ∧ o.1.1 81 j = 1 ∧ o.1.1 77 1 = 0 ∧ gb_Fr (fun c k => (c = 77 ∧ (k = 0 ∨ k = 1)) ∨ (c = 80 ∧ 5520 * j ≤ k ∧ k < 5520 * j + 5520) ∨ (c = 81 ∧ k = j)) o1 o.1) := by
      refine cpl0 (fun fuel g y => f_X11_image_23 sh fuel g (Int32.ofNat j) y) 80 79 (5520 * j) 0 5520 (by omega) (by unfold gb_N; omega) (gb_pi o1 77 0 0) (fun f g i hi => ?_) fun f g' q1 F => ?_
      · show f_X11_image_23 sh (f + 1) g (Int32.ofNat j) (Int32.ofNat i) = f_X11_image_23 sh f _ (Int32.ofNat j) _
        rw [f_X11_image_23, if_neg (by rw [show (5520 : Int32) = Int32.ofNat 5520 from rfl, o_le (by omega) (by omega)]; omega), show (5520 : Int32) = Int32.ofNat 5520 from rfl, o_mul, o_add, gb_ck_s (o_in (by omega) (by omega)), gb_ck_s (o_in (by omega) (by omega)), gb_let_s, o_cl (by omega), o_cl (by omega), o_succ, Nat.zero_add]
      · show gb_T (f_X11_image_23 sh (f + 1) g' (Int32.ofNat j) (Int32.ofNat 5520)) _
        rw [f_X11_image_23, if_pos (by decide), gb_ck_s (o_in hj (by omega)), gb_let_s, o_cl (by omega), te_p (by decide), gb_bd_s]
        refine ⟨_, rfl, rfl, fun k hk => ?_, ?_, pi_e, ?_⟩
        · have z := q1 k hk
          rw [Nat.zero_add] at z
          exact (pi_n (by omega)).trans ((pi_n (by omega)).trans (z.trans ((pi_n (by omega)).trans (f1 79 k (by omega)).1)))
        · exact (pi_n (by omega)).trans pi_e
        · exact ((gb_Fr.tr (gb_Fr.rf.p2 (by omega)) (F.up fun c k q => by omega)).p2 (by omega)).p2 (by omega)
    have r2 : f_X11_image sh o1 (Int32.ofNat j) = some o2 := by
      unfold f_X11_image
      rw [gb_let_s, in_t hx rfl rfl, bt]
      exact e2
    refine ⟨_, _, r1, r2, b1.symm, ?_⟩
    have F : ∀ c k, ¬ ((20 + 6 * j ≤ c ∧ c ≤ 25 + 6 * j) ∨ (c = 32 ∧ k = j) ∨ (c = 0 ∧ k = 18)) → ¬ ((c = 77 ∧ (k = 0 ∨ k = 1)) ∨ (c = 80 ∧ 5520 * j ≤ k ∧ k < 5520 * j + 5520) ∨ (c = 81 ∧ k = j)) → eqc g o2.1 c k := fun c k q1 q2 => by
      have z1 := f1 c k q1
      have z2 := F2 c k q2
      exact ⟨z2.1.trans z1.1, z2.2.1.trans z1.2.1, z2.2.2.trans z1.2.2⟩
    have hM : iM o2.1 := by
      refine ⟨(F 0 15 (by omega) (by omega)).1.trans (h4.1.trans (F 77 18 (by omega) (by omega)).1.symm), (F 0 16 (by omega) (by omega)).1.trans (h4.2.1.trans (F 77 11 (by omega) (by omega)).1.symm), (F 0 17 (by omega) (by omega)).1.trans (h4.2.2.1.trans (F 77 51 (by omega) (by omega)).1.symm), ?_⟩
      rw [(F2 0 18 (by omega)).1, ho1, pi_e, b4]
    have hF : iF sh o2.1 := by
      intro b k p hb hk hq
      by_cases eb : b = 25 + 6 * j
      · have z : o2.1.2.2 b k = g.2.2 6 k := by
          rw [eb, (F2 _ k (by omega)).2.2, (fa _ k (by omega)).2.2, show 25 + 6 * j = 20 + 6 * j + 5 by omega]
          exact hL k hk
        rw [z] at hq
        exact h3 6 k p (by omega) hk hq
      · exact h3 b k p hb hk (by rw [← (F b k (by omega) (by omega)).2.2]; exact hq)
    have hII : iI sh o2.1 := by
      refine ⟨(F 19 0 (by omega) (by omega)).2.2.trans h8.1, (F 19 1 (by omega) (by omega)).2.2.trans h8.2.1, fun i hi => ?_⟩
      by_cases ei : i = j
      · subst ei
        refine Or.inr ⟨?_, b3, β, hw, ?_, ?_⟩
        · rw [(F2 32 i (by omega)).1, ho1, pi_n (by omega), pi_e]
        · exact cvB_fr hc1 fun c k q => by
            have z1 := fa c k (by omega)
            have z2 := F2 c k (by omega)
            exact ⟨z2.1.trans z1.1, z2.2.1.trans z1.2.1, z2.2.2.trans z1.2.2⟩
        · exact mvB_fr hm hw fun k hk => b2 k hk
      · rw [(F 32 i (by omega) (by omega)).1, (F 81 i (by omega) (by omega)).1]
        rcases h8.2.2 i hi with z | ⟨z1, z2, β', y1, y2, y3⟩
        · exact Or.inl z
        · exact Or.inr ⟨z1, z2, β', y1, cvB_fr y2 fun c k q => F c k (by omega) (by omega), mvB_fr y3 y1 fun k hk => (F 80 _ (by omega) (by omega)).1⟩
    exact ⟨hS, ⟨mvC_fr h1 fun c k q => F c k (by omega) (by omega), (F 77 20 (by omega) (by omega)).1.trans h2⟩, hF, hM, iR_fr h5 fun c k q => F c k (by omega) (by omega), iT_fr h6 fun c k q => F c k (by omega) (by omega), iD_fr h7 fun c k q => F c k (by omega) (by omega), hII, β, iB_fr ⟨hw, hc, hm⟩ fun c k q => F c k (by omega) (by omega), iU_fr hw.1 h10 fun c k q => F c k (by omega) (by omega)⟩
  · refine rf_b (fun g => f_X11_image sh g x1) (-1) 1 (by omega) rfl (by decide) hI ?_ fun g1 e1 e2 _ => ?_
    · unfold f_X10_image
      rw [within_f hx rfl rfl, bf]
    · show f_X11_image sh g1 x1 = _
      unfold f_X11_image
      rw [gb_let_s, in_f hx rfl rfl, bf]
theorem p_back : ps_back gb_I := by
  intro sh g x1 hI
  by_cases hx : im 0 1 x1
  · obtain ⟨j, hj, rfl⟩ := o_of (n := 2) hx
    have hI0 := hI
    obtain ⟨hS, ⟨h1, h2⟩, h3, h4, h5, h6, h7, h8, β0, ⟨hw0, hc0, hm0⟩, h10⟩ := hI0
    rcases h8.2.2 j hj with ⟨z1, z2⟩ | ⟨z1, z2, β, hw, hc, hm⟩
    · refine rf_b (fun g => f_X11_back sh g (Int32.ofNat j)) (-2) 2 (by omega) rfl (by decide) hI ?_ fun g1 e1 e2 e3 => ?_
      · unfold f_X10_back
        rw [within_t hx rfl rfl, bt, gb_ck_s (o_in hj (by omega)), o_cl (by omega)]
        simp only []
        rw [if_pos z1]
      · show f_X11_back sh g1 _ = _
        unfold f_X11_back
        rw [gb_let_s, in_t hx rfl rfl, bt, gb_ck_s (o_in hj (by omega)), o_cl (by omega)]
        simp only []
        rw [if_pos (by rw [pi_n (by omega), e3]; exact z2)]
    · obtain ⟨a, e1, hc1, hL⟩ := cpB (sh := sh) (b := 1) (b1 := 20 + 6 * j) hw (by omega) (by omega) hc (fun k p hk hq => h3 (20 + 6 * j + 5) k p (by omega) hk hq)
      have F0 := w_X0_copyFrom e1
      obtain ⟨o1, ho1⟩ : ∃ q, q = gb_pi (gb_pi a 33 0 0) 0 18 0 := ⟨_, rfl⟩
      have r1 : f_X10_back sh g (Int32.ofNat j) = some (o1, 0) := by
        unfold f_X10_back
        rw [within_t hx rfl rfl, bt, gb_ck_s (o_in hj (by omega)), o_cl (by omega)]
        simp only []
        rw [if_neg (by rw [z1]; decide), gb_ck_s (o_in hj (by omega)), img_at h8 hj, gb_bd_s, gdX0_s (ok_img hS.1 hj), e1, gb_bd_s, ho1]
        rfl
      have f1 : ∀ c k, ¬ ((1 ≤ c ∧ c ≤ 6) ∨ (c = 33 ∧ k = 0) ∨ (c = 0 ∧ k = 18)) → eqc g o1 c k := fun c k q => by
        have z := F0 c k (by omega)
        rw [ho1]
        exact ⟨(pi_n (by omega)).trans ((pi_n (by omega)).trans z.1), z.2.1, z.2.2⟩
      have fa : ∀ c k, ¬ ((c = 33 ∧ k = 0) ∨ (c = 0 ∧ k = 18)) → eqc a o1 c k := fun c k q => by
        rw [ho1]
        exact ⟨(pi_n (by omega)).trans (pi_n (by omega)), rfl, rfl⟩
      obtain ⟨o2, e2, b1, b2, b3, b4, F2⟩ : gb_T (f_X11_back_39 sh gb_N (gb_pi o1 77 0 0) (Int32.ofNat j) 0) (fun o => o.2 = 0 ∧ (∀ k, k < 5520 → o.1.1 79 k = g.1 80 (5520 * j + k)) ∧ o.1.1 77 8 = 0 ∧ o.1.1 77 1 = 0 ∧ gb_Fr (fun c k => (c = 77 ∧ (k = 0 ∨ k = 1 ∨ k = 8)) ∨ (c = 79 ∧ k < 5520)) o1 o.1) := by
        refine cpl0 (fun fuel g y => f_X11_back_39 sh fuel g (Int32.ofNat j) y) 79 80 0 (5520 * j) 5520 (by omega) (by unfold gb_N; omega) (gb_pi o1 77 0 0) (fun f g i hi => ?_) fun f g' q1 F => ?_
        · show f_X11_back_39 sh (f + 1) g (Int32.ofNat j) (Int32.ofNat i) = f_X11_back_39 sh f _ (Int32.ofNat j) _
          rw [f_X11_back_39, if_neg (by rw [show (5520 : Int32) = Int32.ofNat 5520 from rfl, o_le (by omega) (by omega)]; omega), show (5520 : Int32) = Int32.ofNat 5520 from rfl, o_mul, o_add, gb_ck_s (o_in (by omega) (by omega)), gb_ck_s (o_in (by omega) (by omega)), gb_let_s, o_cl (by omega), o_cl (by omega), o_succ, Nat.zero_add]
        · show gb_T (f_X11_back_39 sh (f + 1) g' (Int32.ofNat j) (Int32.ofNat 5520)) _
          rw [f_X11_back_39, if_pos (by decide), se_p (by decide), gb_bd_s]
          refine ⟨_, rfl, rfl, fun k hk => ?_, (pi_n (by omega)).trans pi_e, pi_e, ?_⟩
          · have z := q1 k hk
            rw [Nat.zero_add] at z
            exact (pi_n (by omega)).trans ((pi_n (by omega)).trans (z.trans ((pi_n (by omega)).trans (f1 80 _ (by omega)).1)))
          · exact ((gb_Fr.tr (gb_Fr.rf.p2 (by omega)) (F.up fun c k q => by omega)).p2 (by omega)).p2 (by omega)
      have r2 : f_X11_back sh o1 (Int32.ofNat j) = some o2 := by
        unfold f_X11_back
        rw [gb_let_s, in_t hx rfl rfl, bt, gb_ck_s (o_in hj (by omega)), o_cl (by omega)]
        simp only []
        rw [if_neg (by rw [pi_n (by omega), (f1 81 j (by omega)).1, z2]; decide)]
        exact e2
      refine ⟨_, _, r1, r2, b1.symm, ?_⟩
      have F : ∀ c k, ¬ ((1 ≤ c ∧ c ≤ 6) ∨ (c = 33 ∧ k = 0) ∨ (c = 0 ∧ k = 18)) → ¬ ((c = 77 ∧ (k = 0 ∨ k = 1 ∨ k = 8)) ∨ (c = 79 ∧ k < 5520)) → eqc g o2.1 c k := fun c k q1 q2 => by
        have z1 := f1 c k q1
        have z2 := F2 c k q2
        exact ⟨z2.1.trans z1.1, z2.2.1.trans z1.2.1, z2.2.2.trans z1.2.2⟩
      have hM : iM o2.1 := by
        refine ⟨(F 0 15 (by omega) (by omega)).1.trans (h4.1.trans (F 77 18 (by omega) (by omega)).1.symm), (F 0 16 (by omega) (by omega)).1.trans (h4.2.1.trans (F 77 11 (by omega) (by omega)).1.symm), (F 0 17 (by omega) (by omega)).1.trans (h4.2.2.1.trans (F 77 51 (by omega) (by omega)).1.symm), ?_⟩
        rw [(F2 0 18 (by omega)).1, ho1, pi_e, b4]
      have hF : iF sh o2.1 := by
        intro b k p hb hk hq
        by_cases eb : b = 6
        · have z : o2.1.2.2 b k = g.2.2 (20 + 6 * j + 5) k := by
            rw [eb, (F2 _ k (by omega)).2.2, (fa _ k (by omega)).2.2]
            exact hL k hk
          rw [z] at hq
          exact h3 _ k p (by omega) hk hq
        · exact h3 b k p hb hk (by rw [← (F b k (by omega) (by omega)).2.2]; exact hq)
      have u1 : o2.1.1 33 0 = 0 := by rw [(F2 33 0 (by omega)).1, ho1, pi_n (by omega), pi_e]
      have hcv : cvB sh o2.1 1 β := cvB_fr hc1 fun c k q => by
        have z1 := fa c k (by omega)
        have z2 := F2 c k (by omega)
        exact ⟨z2.1.trans z1.1, z2.2.1.trans z1.2.1, z2.2.2.trans z1.2.2⟩
      exact ⟨hS, ⟨mvC_fr h1 fun c k q => F c k (by omega) (by omega), (F 77 20 (by omega) (by omega)).1.trans h2⟩, hF, hM, iR_fr h5 fun c k q => F c k (by omega) (by omega), iT_fr h6 fun c k q => F c k (by omega) (by omega), iD_fr h7 fun c k q => F c k (by omega) (by omega), iI_fr h8 fun c k q => F c k (by omega) (by omega), β, ⟨hw, hcv, mvB_fr hm hw fun k hk => b2 k hk⟩, ⟨0, by omega, u1, b3, fun k hk => by omega⟩⟩
  · refine rf_b (fun g => f_X11_back sh g x1) (-1) 1 (by omega) rfl (by decide) hI ?_ fun g1 e1 e2 _ => ?_
    · unfold f_X10_back
      rw [within_f hx rfl rfl, bf]
    · show f_X11_back sh g1 x1 = _
      unfold f_X11_back
      rw [gb_let_s, in_f hx rfl rfl, bf]
/-! ===== a MONTH passes ===== -/
theorem bCur_bCur {β : ms_B} {s s' : Nat → Int32} : bCur (bCur β s) s' = bCur β s' := by
  unfold bCur
  have : (fun a b => if b = 1 then s' (3 + a) else if b = 5 then s' (11 + a) else if b = 2 then s' (19 + a) else (if b = 1 then s (3 + a) else if b = 5 then s (11 + a) else if b = 2 then s (19 + a) else bT β a b)) = fun a b => if b = 1 then s' (3 + a) else if b = 5 then s' (11 + a) else if b = 2 then s' (19 + a) else bT β a b := by
    funext a b
    by_cases h1 : b = 1
    · rw [if_pos h1, if_pos h1]
    · rw [if_neg h1, if_neg h1]
      by_cases h5 : b = 5
      · rw [if_pos h5, if_pos h5]
      · rw [if_neg h5, if_neg h5]
        by_cases h2 : b = 2
        · rw [if_pos h2, if_pos h2]
        · rw [if_neg h2, if_neg h2, if_neg h1, if_neg h5, if_neg h2]
  exact congrArg (fun z => (bN β, z, bP β, bO β, bH β, bHe β, s', bL β, bF β)) this
theorem near_im {x a b : Int32} {lo hi : Int} (ha : a.toInt = lo) (hb : b.toInt = hi) (h : lo ≤ hi) : im lo hi (ms_near x a b) := by
  unfold ms_near im
  split
  · rename_i q
    rw [Int32.lt_iff_toInt_lt] at q
    split at q
    · rename_i q2
      rw [Int32.lt_iff_toInt_lt] at q2
      rw [if_pos (by rw [Int32.lt_iff_toInt_lt]; exact q2)]
      omega
    · rename_i q2
      rw [if_neg q2]
      omega
  · omega
noncomputable def ms_mv (β : ms_B) (i : Nat) : Int32 := ms_as β (ms_tl β (ms_lw β (bF β)) i 0) i 0
noncomputable def sMv (β : ms_B) (k i : Nat) : Int32 := if 3 ≤ i ∧ i < 3 + k then ms_near (cur β i + ms_mv β (i - 3)) 1 12 else cur β i
noncomputable def sPass (β : ms_B) (i : Nat) : Int32 := if i = 0 then cur β 0 + 1 else sMv β (bN β) i
theorem sMv_lo {β : ms_B} {k i : Nat} (h : ¬ (3 ≤ i ∧ i < 3 + k)) : sMv β k i = cur β i := if_neg h
theorem sMv_hi {β : ms_B} {k i : Nat} (h : i < k) : sMv β k (3 + i) = ms_near (cur β (3 + i) + ms_mv β i) 1 12 := by
  unfold sMv
  rw [if_pos (by omega), show 3 + i - 3 = i by omega]
theorem wfC_mv {β : ms_B} {k : Nat} (hw : wfB β) (hk : k ≤ 8) : wfC (bN β) (sMv β k) := by
  have hn := hw.1
  obtain ⟨c1, c2, c3, c4⟩ := wfC_cur hw
  refine ⟨fun i hi => ⟨?_, ?_, ?_⟩, ?_, ?_, ?_⟩
  · by_cases q : i < k
    · rw [sMv_hi q]; exact near_im rfl rfl (by omega)
    · rw [sMv_lo (by omega)]; exact (c1 i hi).1
  · rw [sMv_lo (by omega)]; exact (c1 i hi).2.1
  · rw [sMv_lo (by omega)]; exact (c1 i hi).2.2
  · rw [sMv_lo (by omega)]; exact c2
  · rw [sMv_lo (by omega)]; exact c3
  · rw [sMv_lo (by omega)]; exact c4
theorem wfC_pass {β : ms_B} (hw : wfB β) (h : ¬ bTe β 0 = 999) : wfC (bN β) (sPass β) := by
  have hn := hw.1
  obtain ⟨c1, c2, c3, c4⟩ := wfC_mv (k := bN β) hw (by omega)
  have h0 := hw.2.2.2.2.2.2.2.2.2.2.1
  have h1 : ¬ (bTe β 0).toInt = (999 : Int32).toInt := fun q => h (Int32.toInt_inj.1 q)
  rw [show (999 : Int32).toInt = 999 from rfl] at h1
  unfold sPass
  refine ⟨fun i hi => ?_, ?_, ?_, ?_⟩
  · rw [if_neg (by omega), if_neg (by omega), if_neg (by omega)]; exact c1 i hi
  · rw [if_pos rfl, cur_te (by omega)]
    rw [im] at *
    rw [i_add, show (1 : Int32).toInt = 1 from rfl]
    · omega
    · rw [show (1 : Int32).toInt = 1 from rfl]; omega
    · rw [show (1 : Int32).toInt = 1 from rfl]; omega
  · rw [if_neg (by omega)]; exact c3
  · rw [if_neg (by omega)]; exact c4
theorem wr_f {sh : List gb_Sh} {g : gb_G} {b n : Nat} {x y v : Int32} (hn : n ≤ 8) (h0 : g.1 b 0 = Int32.ofNat n) (hx : ¬ im 0 ((n : Int) - 1) x) : f_X0_write sh g b x y v = some g := by
  unfold f_X0_write
  rw [has_f hn h0 hx, bf]
theorem mA_47 {sh : List gb_Sh} {b : Nat} {β : ms_B} (hb : b + 5 < 53) (hw : wfB β) : ∀ (m k fuel : Nat) (g : gb_G), k + m = 8 → m < fuel → cvB sh g b (bCur β (sMv β k)) → (∀ q, q < bN β → g.1 56 q = ms_mv β q) → gb_T (f_X4_moveAll_47 sh b fuel g (Int32.ofNat k)) (fun o => cvB sh o b (bCur β (sPass β))) := by
  have hn := hw.1
  intro m
  induction m with
  | zero =>
    intro k fuel g h hf hc h56
    obtain ⟨f, rfl⟩ : ∃ f, fuel = f + 1 := ⟨fuel - 1, by omega⟩
    have e : k = 8 := by omega
    subst e
    rw [f_X4_moveAll_47, if_pos (by decide), gb_let_s]
    have h4 : g.1 (b + 4) 0 = sMv β 8 0 := hc.2.2.2.2.2.2.1 0 (by omega)
    rw [h4, sMv_lo (by omega)]
    refine ⟨_, rfl, ?_⟩
    have hc' : cvB sh g b (bCur β (sMv β (bN β))) := cvB_curc hc fun i hi => by
      unfold ms_rl at hi
      by_cases q : 3 ≤ i ∧ i < 3 + bN β
      · obtain ⟨a, ha⟩ : ∃ a, i = 3 + a := ⟨i - 3, by omega⟩
        subst ha
        rw [sMv_hi (by omega), sMv_hi (by omega)]
      · rw [sMv_lo q, sMv_lo (by omega)]
    obtain ⟨c0, c1, c2, c3, c4, c5, c6, c7, c8, c9⟩ := hc'
    have fr : ∀ c q, ¬ c = b + 4 → eqc g (gb_pi g (b + 4) 0 (cur β 0 + 1)) c q := fun c q hq => ⟨pi_n (by omega), rfl, rfl⟩
    refine ⟨(fr _ _ (by omega)).1.trans c0, fun i j hi hj => ?_, (fr _ _ (by omega)).1.trans c2, fun p i hp hi => (fr _ _ (by omega)).1.trans (c3 p i hp hi), (fr _ _ (by omega)).1.trans c4, fun j hj => (fr _ _ (by omega)).1.trans (c5 j hj), fun j hj => ?_, (fr _ _ (by omega)).1.trans c7, fun q lw hq => ?_, (fr _ _ (by omega)).1.trans c9⟩
    · rw [(fr _ _ (by omega)).1, c1 i j hi hj]
      show (if j = 1 then sMv β (bN β) (3 + i) else if j = 5 then sMv β (bN β) (11 + i) else if j = 2 then sMv β (bN β) (19 + i) else bT β i j) = if j = 1 then sPass β (3 + i) else if j = 5 then sPass β (11 + i) else if j = 2 then sPass β (19 + i) else bT β i j
      unfold sPass
      rw [if_neg (show ¬ 3 + i = 0 by omega), if_neg (show ¬ 11 + i = 0 by omega), if_neg (show ¬ 19 + i = 0 by omega)]
    · show _ = sPass β j
      unfold sPass
      by_cases ej : j = 0
      · subst ej; rw [pi_e, if_pos rfl]
      · rw [pi_n (by omega), if_neg ej]; exact c6 j hj
    · obtain ⟨p, hp, hl⟩ := c8 q lw hq
      exact ⟨p, hp, cvL_fr hl fun c k hc => fr c k (by omega)⟩
  | succ m ih =>
    intro k fuel g h hf hc h56
    obtain ⟨f, rfl⟩ : ∃ f, fuel = f + 1 := ⟨fuel - 1, by omega⟩
    have hwk : wfB (bCur β (sMv β k)) := wfB_cur hw (wfC_mv hw (by omega))
    rw [f_X4_moveAll_47, if_neg (by rw [show (8 : Int32) = Int32.ofNat 8 from rfl, o_le (by omega) (by omega)]; omega)]
    by_cases q : k < bN β
    · have hkn : k < bN (bCur β (sMv β k)) := q
      rw [rd_t (y := 1) (j := 1) hwk hc rfl hkn rfl (by omega), gb_bd_s]
      simp only []
      rw [gb_ck_s (o_in (by omega) (by omega)), o_cl (by omega), h56 k q, show bT (bCur β (sMv β k)) k 1 = cur β (3 + k) from sMv_lo (by omega), near_e, gb_bd_s]
      simp only []
      rw [wr_t (n := bN β) (i := k) (y := 1) (j := 1) hn hc.1 rfl q rfl (by omega), gb_bd_s, o_succ]
      refine ih (k + 1) f _ (by omega) (by omega) ?_ (fun q hq => (pi_n (by omega)).trans (h56 q hq))
      have z := wr_cur (v := ms_near (cur β (3 + k) + ms_mv β k) 1 12) (by omega) hwk hc hkn (t := 1) (p := 3 + k) (by omega)
      rw [bCur_bCur] at z
      refine cvB_curc z fun i hi => ?_
      by_cases e : i = 3 + k
      · subst e; rw [sSet_e, sMv_hi (by omega)]
      · rw [sSet_n e, cur_cur]
        by_cases e2 : 3 ≤ i ∧ i < 3 + k
        · obtain ⟨a, ha⟩ : ∃ a, i = 3 + a := ⟨i - 3, by omega⟩
          subst ha
          rw [sMv_hi (by omega), sMv_hi (by omega)]
        · rw [sMv_lo (by omega), sMv_lo (by omega)]
    · rw [rd_f hwk hc.1 (by rw [im, o_int (by omega)]; show ¬ ((0 : Int) ≤ k ∧ (k : Int) ≤ (bN β : Int) - 1); omega), gb_bd_s]
      simp only []
      rw [gb_ck_s (o_in (by omega) (by omega)), near_e, gb_bd_s]
      simp only []
      rw [wr_f (n := bN β) hn hc.1 (by rw [im, o_int (by omega)]; omega), gb_bd_s, o_succ]
      refine ih (k + 1) f _ (by omega) (by omega) (cvB_curc hc fun i hi => ?_) h56
      unfold ms_rl at hi
      by_cases e2 : 3 ≤ i ∧ i < 3 + k
      · obtain ⟨a, ha⟩ : ∃ a, i = 3 + a := ⟨i - 3, by omega⟩
        subst ha
        rw [sMv_hi (by omega), sMv_hi (by omega)]
      · rw [sMv_lo (by omega), sMv_lo (by omega)]
theorem mA_7 {sh : List gb_Sh} {b : Nat} {β : ms_B} {q2 : Option Nat} (hb : b + 5 < 53) (hw : wfB β) : ∀ (m k fuel : Nat) (g : gb_G), k + m = 8 → m < fuel → cvB sh g b β → lq sh g q2 (ms_lw β (bF β)) → (∀ q, q < k → q < bN β → g.1 56 q = ms_mv β q) → gb_T (f_X4_moveAll_7 sh b fuel g q2 (Int32.ofNat k)) (fun o => cvB sh o b (bCur β (sPass β))) := by
  have hn := hw.1
  intro m
  induction m with
  | zero =>
    intro k fuel g h hf hc hL h56
    obtain ⟨f, rfl⟩ : ∃ f, fuel = f + 1 := ⟨fuel - 1, by omega⟩
    have e : k = 8 := by omega
    subst e
    rw [f_X4_moveAll_7, if_pos (by decide)]
    have hcc : cvB sh g b (bCur β (sMv β 0)) := by
      have z : ∀ i, sMv β 0 i = cur β i := fun i => sMv_lo (by omega)
      refine cvB_cur hw hc (fun a ha => ⟨?_, ?_, ?_⟩) (fun _ _ _ _ _ _ _ => rfl) (fun j hj => ?_) (fun c k _ => ⟨rfl, rfl, rfl⟩)
      · rw [z, cur_now (by omega)]; exact hc.2.1 a 1 ha (by omega)
      · rw [z, cur_la (by omega)]; exact hc.2.1 a 5 ha (by omega)
      · rw [z, cur_we]; exact hc.2.1 a 2 ha (by omega)
      · rw [z, cur_te hj]; exact hc.2.2.2.2.2.2.1 j hj
    exact mA_47 hb hw 8 0 gb_N g (by omega) (by unfold gb_N; omega) hcc fun q hq => h56 q (by omega) hq
  | succ m ih =>
    intro k fuel g h hf hc hL h56
    obtain ⟨f, rfl⟩ : ∃ f, fuel = f + 1 := ⟨fuel - 1, by omega⟩
    rw [f_X4_moveAll_7, if_neg (by rw [show (8 : Int32) = Int32.ofNat 8 from rfl, o_le (by omega) (by omega)]; omega)]
    by_cases q : k < bN β
    · rw [has_t hn hc.1 (o_im _ q (by omega)), bt]
      obtain ⟨o, e, v⟩ := tell_c (sh := sh) (kd := 0) hb hw hc q (by omega) hL
      have F := w_X4_tell e
      refine gb_T.bs e ?_
      unfold f_X4_moveAll_38
      rw [gb_ck_s (o_in (by omega) (by omega)), o_cl (by omega), gb_let_s, v, o_succ]
      refine ih (k + 1) f _ (by omega) (by omega) (cvB_fr hc fun c k q => ?_) (lq_fr hL fun c k q => ?_) fun q' q1 q2 => ?_
      · have z := F c k (by omega)
        exact ⟨(pi_n (by omega)).trans z.1, z.2.1, z.2.2⟩
      · have z := F c k (by omega)
        exact ⟨(pi_n (by omega)).trans z.1, z.2.1, z.2.2⟩
      · by_cases eq : q' = k
        · subst eq; rw [pi_e]; rfl
        · rw [pi_n (by omega), (F 56 q' (by omega)).1]; exact h56 q' (by omega) q2
    · rw [has_f hn hc.1 (by rw [im, o_int (by omega)]; omega), bf]
      unfold f_X4_moveAll_38
      rw [gb_ck_s (o_in (by omega) (by omega)), o_cl (by omega), gb_let_s, o_succ]
      refine ih (k + 1) f _ (by omega) (by omega) (cvB_fr hc fun c k q => ⟨pi_n (by omega), rfl, rfl⟩) (lq_fr hL fun c k q => ⟨pi_n (by omega), rfl, rfl⟩) fun q' q1 q2 => ?_
      rw [pi_n (by omega)]; exact h56 q' (by omega) q2
theorem mA {sh : List gb_Sh} {g : gb_G} {b : Nat} {β : ms_B} (hb : b + 5 < 53) (hw : wfB β) (hc : cvB sh g b β) : gb_T (f_X4_moveAll sh g b) (fun o => cvB sh o b (bCur β (sPass β))) := by
  obtain ⟨q2, e2, hL⟩ := lif_c hw hc
  unfold f_X4_moveAll
  rw [e2, gb_bd_s]
  exact mA_7 hb hw 8 0 gb_N g (by omega) (by unfold gb_N; omega) hc hL fun q hq => by omega
/-! the reference -/
theorem ms_w_c {β : ms_B} {s : Nat → Int32} {i : Nat} (hi : i < 8) (h1 : s (3 + i) = bT β i 1) (h5 : s (11 + i) = bT β i 5) (h2 : s (19 + i) = bT β i 2) (t0 : s 0 = bTe β 0) (t2 : s 2 = bTe β 2) : ms_w (bCur β s) i = ms_w β i := by
  funext j
  unfold ms_w
  show (if j = 0 then Int32.ofNat i else if j = 1 then bT β i 0 else if j = 2 then s (3 + i) else if j = 3 then s (19 + i) else if j = 4 then bT β i 3 else if j = 5 then s (11 + i) else if j = 6 then bT β i 4 else if j = 7 then s 0 else s 2) = _
  rw [h1, h5, h2, t0, t2]
theorem pI_m {sh : List gb_Sh} {β : ms_B} (hw : wfB β) : ∀ (m k fuel : Nat) (g : gb_G), k + m = bN β → m < fuel → mvB (g.1 79) (bCur β (sMv β k)) → g.1 77 20 = 0 → gb_T (f_X11_passIt_2 sh fuel g (Int32.ofNat k)) (fun o => mvB (o.1 79) (bCur β (sPass β))) := by
  have hn := hw.1
  intro m
  induction m with
  | zero =>
    intro k fuel g h hf hm h20
    obtain ⟨f, rfl⟩ : ∃ f, fuel = f + 1 := ⟨fuel - 1, by omega⟩
    have e : k = bN β := by omega
    subst e
    have hwk : wfB (bCur β (sMv β (bN β))) := wfB_cur hw (wfC_mv hw (by omega))
    rw [f_X11_passIt_2, if_pos (by rw [hm.1]; exact Int32.le_refl _), gb_let_s]
    refine ⟨_, rfl, ?_⟩
    have z := wr_curm (v := g.1 79 5 + 1) hwk hm (p := 0) (by unfold ms_rl; omega)
    rw [bCur_bCur] at z
    have e5 : g.1 79 5 = cur β 0 := by
      have := hm.2.2.2.2.2.2.1 0 (by omega)
      exact Eq.trans this (sMv_lo (by omega))
    have e : sSet (bCur β (sMv β (bN β))) 0 (g.1 79 5 + 1) = sPass β := by
      funext i
      unfold sSet sPass
      by_cases ei : i = 0
      · rw [if_pos ei, if_pos ei, e5]
      · rw [if_neg ei, if_neg ei, cur_cur]
    rw [e] at z
    exact z
  | succ m ih =>
    intro k fuel g h hf hm h20
    obtain ⟨f, rfl⟩ : ∃ f, fuel = f + 1 := ⟨fuel - 1, by omega⟩
    have hwk : wfB (bCur β (sMv β k)) := wfB_cur hw (wfC_mv hw (by omega))
    have q : k < bN β := by omega
    have hkn : k < bN (bCur β (sMv β k)) := q
    rw [f_X11_passIt_2, if_neg (by rw [hm.1, o_le (by show bN β < _; omega) (by omega)]; show ¬ bN β ≤ k; omega), show (8 : Int32) = Int32.ofNat 8 from rfl, o_add, gb_ck_s (o_in (by omega) (by omega))]
    obtain ⟨o, e, v⟩ := mov_m (sh := sh) hwk hm h20 hkn
    have F := w_X11_movesOf e
    refine gb_T.bs e ?_
    have e8 : g.1 79 (8 + k) = cur β (3 + k) := by
      have := (hm.2.1 k hkn).2.1
      exact Eq.trans this (sMv_lo (by omega))
    have ev : o.2 = ms_mv β k := by
      rw [v]
      unfold ms_mv ms_tl
      have ew : ms_w (bCur β (sMv β k)) k = ms_w β k := ms_w_c (by omega) ((sMv_lo (by omega)).trans (cur_now (by omega))) ((sMv_lo (by omega)).trans (cur_la (by omega))) ((sMv_lo (by omega)).trans cur_we) ((sMv_lo (by omega)).trans (cur_te (by omega))) ((sMv_lo (by omega)).trans (cur_te (by omega)))
      rw [ew]
      rfl
    rw [ev, o_cl (by omega), e8, wi_e (by decide), gb_bd_s]
    simp only []
    rw [gb_ck_s (o_in (by omega) (by omega)), gb_let_s, o_succ]
    have hm1 : mvB (o.1.1 79) (bCur β (sMv β k)) := mvB_fr hm hwk fun k _ => (F 79 k (by omega)).1
    have z := wr_curm (v := ms_near (cur β (3 + k) + ms_mv β k) 1 12) hwk hm1 (p := 3 + k) (by unfold ms_rl; show _ ∨ (3 ≤ 3 + k ∧ 3 + k < 3 + bN β) ∨ _; omega)
    rw [bCur_bCur, show 5 + (3 + k) = 8 + k by omega] at z
    have es : sSet (bCur β (sMv β k)) (3 + k) (ms_near (cur β (3 + k) + ms_mv β k) 1 12) = sMv β (k + 1) := by
      funext i
      by_cases e : i = 3 + k
      · subst e; rw [sSet_e, sMv_hi (by omega)]
      · rw [sSet_n e, cur_cur]
        by_cases e2 : 3 ≤ i ∧ i < 3 + k
        · obtain ⟨a, ha⟩ : ∃ a, i = 3 + a := ⟨i - 3, by omega⟩
          subst ha
          rw [sMv_hi (by omega), sMv_hi (by omega)]
        · rw [sMv_lo (by omega), sMv_lo (by omega)]
    rw [es] at z
    exact ih (k + 1) f _ (by omega) (by omega) z (by rw [pi_n (by omega), (F 77 20 (by omega)).1]; exact h20)
theorem pI {sh : List gb_Sh} {g : gb_G} {β : ms_B} (hw : wfB β) (hm : mvB (g.1 79) β) (h20 : g.1 77 20 = 0) : gb_T (f_X11_passIt sh g) (fun o => mvB (o.1 79) (bCur β (sPass β))) := by
  have hn := hw.1
  refine pI_m hw (bN β) 0 gb_N g (by omega) (by unfold gb_N; omega) ?_ h20
  exact mvB_cur hw hm (fun i hi => (mv_cur hw hm hi).trans (sMv_lo (by omega)).symm) fun k _ _ => rfl
theorem wfh_pa {β : ms_B} (hw : wfB β) (h : ¬ bTe β 0 = 999) : wfh 3 0 (bN β) (cur β) (sPass β) := by
  have hn := hw.1
  have h0 := hw.2.2.2.2.2.2.2.2.2.2.1
  have h1 : ¬ (bTe β 0).toInt = (999 : Int32).toInt := fun q => h (Int32.toInt_inj.1 q)
  rw [show (999 : Int32).toInt = 999 from rfl] at h1
  refine ⟨by omega, fun q => by omega, fun i hi q1 q2 q3 => ?_, fun q => by omega, fun q => by omega, fun q => by omega, fun q => ⟨?_, ?_, fun i hi => (wfC_cur hw).1 i hi |>.1⟩⟩
  · unfold ms_rl at hi
    unfold sPass
    rw [if_neg (by omega), sMv_lo (by omega)]
  · rw [cur_te (by omega)]; rw [im] at *; omega
  · unfold sPass; rw [if_pos rfl]
theorem pM_c {sh : List gb_Sh} {β : ms_B} {H : ms_H} {g : gb_G} (hw : wfB β) (hc : cvB sh g 1 β) (hh : cvH g 33 H (bN β)) (hN : H.1 ≤ 16) (h : ¬ bTe β 0 = 999) : gb_T (f_X10_passMonth sh g) (fun o => cvB sh o.1 1 (bCur β (sPass β)) ∧ cvH o.1 33 (hPush H 3 0 (cur β)) (bN β) ∧ o.2 = bTe β 0 + 1) := by
  have h0 := hw.2.2.2.2.2.2.2.2.2.2.1
  have h1 : ¬ (bTe β 0).toInt = (999 : Int32).toInt := fun q => h (Int32.toInt_inj.1 q)
  rw [show (999 : Int32).toInt = 999 from rfl] at h1
  unfold f_X10_passMonth
  rw [show g.1 (1 + 4) 0 = bTe β 0 from hc.2.2.2.2.2.2.1 0 (by omega), if_pos (by rw [Int32.lt_iff_toInt_lt, show (999 : Int32).toInt = 999 from rfl]; rw [im] at h0; omega)]
  obtain ⟨g1, e1, h1⟩ := rem_c (sh := sh) (K := 3) (j := 0) (x2 := -1) hw hc hh hN (by omega) (fun q => by omega)
  have F1 := w_X3_remember e1
  refine gb_T.bs e1 ?_
  have hc1 : cvB sh g1 1 β := cvB_fr hc fun c k q => F1 c k (by omega)
  obtain ⟨g2, e2, h2⟩ := mA (sh := sh) (b := 1) (by omega) hw hc1
  have F2 := w_X4_moveAll e2
  refine gb_T.bs e2 ?_
  refine ⟨_, rfl, h2, cvH_fr h1 fun c k q => F2 c k (by omega), ?_⟩
  have z : g2.1 (1 + 4) 0 = sPass β 0 := h2.2.2.2.2.2.2.1 0 (by omega)
  show g2.1 (1 + 4) 0 = _
  rw [z, sPass, if_pos rfl, cur_te (by omega)]
theorem pN_m {sh : List gb_Sh} {β : ms_B} {H : ms_H} {g : gb_G} (hw : wfB β) (hm : mvB (g.1 79) β) (hh : mvH g H (bN β)) (hN : H.1 ≤ 16) (h20 : g.1 77 20 = 0) (h : ¬ bTe β 0 = 999) : gb_T (f_X11_passNow sh g) (fun o => mvB (o.1.1 79) (bCur β (sPass β)) ∧ mvH o.1 (hPush H 3 0 (cur β)) (bN β) ∧ o.2 = bTe β 0 + 1) := by
  unfold f_X11_passNow
  rw [show g.1 79 5 = bTe β 0 from hm.2.2.2.2.2.2.1 0 (by omega), if_neg h]
  obtain ⟨g1, e1, h1⟩ := rem_m (sh := sh) (K := 3) (j := 0) hw hm hh hN
  have F1 := w_X11_remember e1
  refine gb_T.bs e1 ?_
  have hm1 : mvB (g1.1 79) β := mvB_fr hm hw fun k _ => (F1 79 k (by omega)).1
  obtain ⟨g2, e2, h2⟩ := pI (sh := sh) hw hm1 (by rw [(F1 77 20 (by omega)).1]; exact h20)
  have F2 := w_X11_passIt e2
  refine gb_T.bs e2 ?_
  refine ⟨_, rfl, h2, mvH_fr ?_ h1 fun c k q => F2 c k (by omega), ?_⟩
  · unfold hPush hAdd hDrop
    split <;> simp <;> omega
  · have z : g2.1 79 5 = sPass β 0 := h2.2.2.2.2.2.2.1 0 (by omega)
    show g2.1 79 5 = _
    rw [z, sPass, if_pos rfl, cur_te (by omega)]
theorem p_pass : ps_pass gb_I := by
  intro sh g hI
  have h20 := hI.2.1.2
  obtain ⟨β, ⟨hw, hc, hm⟩, hU⟩ := hI.2.2.2.2.2.2.2.2
  obtain ⟨H, hh, hhm, hwH⟩ := U_of hw hm hU
  have hn := hw.1
  have hN := hwH.1
  have h0 := hw.2.2.2.2.2.2.2.2.2.2.1
  by_cases h : bTe β 0 = 999
  · refine rf_b (fun g => f_X11_pass sh g) (-3) 3 (by omega) rfl (by decide) hI ?_ fun g1 e1 e2 _ => ?_
    · unfold f_X10_pass f_X10_passMonth
      rw [show g.1 (1 + 4) 0 = bTe β 0 from hc.2.2.2.2.2.2.1 0 (by omega), h, if_neg (by decide), gb_bd_s, st_n 3 (by omega) rfl (by decide), rf 3 (by omega) rfl]
    · show f_X11_pass sh g1 = _
      unfold f_X11_pass f_X11_passNow
      rw [gb_let_s, r79, e1, show g.1 79 5 = bTe β 0 from hm.2.2.2.2.2.2.1 0 (by omega), if_pos h, gb_bd_s]
  · have h1 : ¬ (bTe β 0).toInt = (999 : Int32).toInt := fun q => h (Int32.toInt_inj.1 q)
    rw [show (999 : Int32).toInt = 999 from rfl] at h1
    have hv : 0 ≤ (bTe β 0 + 1).toInt := by
      rw [im] at h0
      rw [i_add, show (1 : Int32).toInt = 1 from rfl]
      · omega
      · rw [show (1 : Int32).toInt = 1 from rfl]; omega
      · rw [show (1 : Int32).toInt = 1 from rfl]; omega
    exact ok_BH (f2 := fun g1 => f_X11_passNow sh g1) (bTe β 0 + 1) hv hI (wfB_cur hw (wfC_pass hw h)) (by rw [cur_curf]; exact wfH_push hwH (wfh_pa hw h)) (pM_c hw hc hh hN h) (fun o => w_X10_passMonth) (fun c k q => by omega) (fun g1 e => pN_m hw (by rw [eq79 e]; exact hm) (mvH_e hN hhm e) hN (by rw [(e 77 20 (by omega) (by omega) (by omega)).1]; exact h20) h) (fun g1 o => w_X11_passNow) (fun c k q => by omega)
