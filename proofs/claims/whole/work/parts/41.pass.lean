/-! ===== a MONTH passes ===== -/
theorem bCur_bCur {β : ms_B} {s s' : Nat → Int32} : bCur (bCur β s) s' = bCur β s' := by
  unfold bCur
  have : (fun a b => if b = 1 then s' (3 + a) else if b = 5 then s' (11 + a) else if b = 2 then s' (19 + a) else (if b = 1 then s (3 + a) else if b = 5 then s (11 + a) else if b = 2 then s (19 + a) else bT β a b)) = fun a b => if b = 1 then s' (3 + a) else if b = 5 then s' (11 + a) else if b = 2 then s' (19 + a) else bT β a b := by
    funext a b
    by_cases h1 : b = 1
    · rw [if_pos h1, if_pos h1]
    · rw [if_neg h1]
      by_cases h5 : b = 5
      · rw [if_pos h5, if_neg h1, if_pos h5]
      · rw [if_neg h5]
        by_cases h2 : b = 2
        · rw [if_pos h2, if_neg h1, if_neg h5, if_pos h2]
        · rw [if_neg h2, if_neg h1, if_neg h5, if_neg h2, if_neg h1, if_neg h5, if_neg h2]
  exact congrArg (fun z => (bN β, z, bP β, bO β, bH β, bHe β, s', bL β, bF β)) this
theorem near_im {x a b : Int32} {lo hi : Int} (ha : a.toInt = lo) (hb : b.toInt = hi) (h : lo ≤ hi) : im lo hi (ms_near x a b) := by
  unfold ms_near im
  by_cases q : x < b
  · rw [if_pos q]
    rw [Int32.lt_iff_toInt_lt] at q
    by_cases q2 : a < x
    · rw [if_pos q2]
      rw [Int32.lt_iff_toInt_lt] at q2
      omega
    · rw [if_neg q2]; omega
  · rw [if_neg q]
    by_cases q2 : a < b
    · rw [if_pos q2]; omega
    · rw [if_neg q2]; omega
noncomputable def ms_mv (β : ms_B) (i : Nat) : Int32 := ms_as β (ms_tl β (ms_lw β (bF β)) i 0) i 0
noncomputable def sMv (β : ms_B) (k i : Nat) : Int32 := if 3 ≤ i ∧ i < 3 + k then ms_near (cur β i + ms_mv β (i - 3)) 1 12 else cur β i
noncomputable def sPass (β : ms_B) (i : Nat) : Int32 := if i = 0 then cur β 0 + 1 else sMv β (bN β) i
theorem sMv_lo {β : ms_B} {k i : Nat} (h : ¬ (3 ≤ i ∧ i < 3 + k)) : sMv β k i = cur β i := if_neg h
theorem sMv_hi {β : ms_B} {k i : Nat} (h : i < k) : sMv β k (3 + i) = ms_near (cur β (3 + i) + ms_mv β i) 1 12 := by
  unfold sMv
  rw [if_pos (by omega), show 3 + i - 3 = i by omega]
theorem wfC_mv {β : ms_B} {k : Nat} (hw : wfB β) (hk : k ≤ 8) : wfC (bN β) (sMv β k) := by
  have hn := hw.1
  obtain ⟨c1, c2, c3, c4⟩ := wfC_cur hw
  refine ⟨fun i hi => ⟨?_, ?_, ?_⟩, ?_, ?_, ?_⟩
  · by_cases q : i < k
    · rw [sMv_hi q]; exact near_im rfl rfl (by omega)
    · rw [sMv_lo (by omega)]; exact (c1 i hi).1
  · rw [sMv_lo (by omega)]; exact (c1 i hi).2.1
  · rw [sMv_lo (by omega)]; exact (c1 i hi).2.2
  · rw [sMv_lo (by omega)]; exact c2
  · rw [sMv_lo (by omega)]; exact c3
  · rw [sMv_lo (by omega)]; exact c4
theorem wfC_pass {β : ms_B} (hw : wfB β) (h : ¬ bTe β 0 = 999) : wfC (bN β) (sPass β) := by
  have hn := hw.1
  obtain ⟨c1, c2, c3, c4⟩ := wfC_mv (k := bN β) hw (by omega)
  have h0 := hw.2.2.2.2.2.2.2.2.2.2.1
  have h1 : ¬ (bTe β 0).toInt = (999 : Int32).toInt := fun q => h (Int32.toInt_inj.1 q)
  rw [show (999 : Int32).toInt = 999 from rfl] at h1
  have z : ∀ i, 0 < i → sPass β i = sMv β (bN β) i := fun i hi => if_neg (by omega)
  refine ⟨fun i hi => ?_, ?_, ?_, ?_⟩
  · rw [z _ (by omega), z _ (by omega), z _ (by omega)]; exact c1 i hi
  · rw [show sPass β 0 = cur β 0 + 1 from if_pos rfl, cur_te (by omega)]
    rw [im] at *
    rw [i_add, show (1 : Int32).toInt = 1 from rfl]
    · omega
    · rw [show (1 : Int32).toInt = 1 from rfl]; omega
    · rw [show (1 : Int32).toInt = 1 from rfl]; omega
  · rw [z _ (by omega)]; exact c3
  · rw [z _ (by omega)]; exact c4
theorem wr_f {sh : List gb_Sh} {g : gb_G} {b n : Nat} {x y v : Int32} (hn : n ≤ 8) (h0 : g.1 b 0 = Int32.ofNat n) (hx : ¬ im 0 ((n : Int) - 1) x) : f_X0_write sh g b x y v = some g := by
  unfold f_X0_write
  rw [has_f hn h0 hx, bf]
theorem mA_47 {sh : List gb_Sh} {b : Nat} {β : ms_B} (hb : b + 5 < 53) (hw : wfB β) : ∀ (m k fuel : Nat) (g : gb_G), k + m = 8 → m < fuel → cvB sh g b (bCur β (sMv β k)) → (∀ q, q < bN β → g.1 56 q = ms_mv β q) → gb_T (f_X4_moveAll_47 sh b fuel g (Int32.ofNat k)) (fun o => cvB sh o b (bCur β (sPass β))) := by
  have hn := hw.1
  intro m
  induction m with
  | zero =>
    intro k fuel g h hf hc h56
    obtain ⟨f, rfl⟩ : ∃ f, fuel = f + 1 := ⟨fuel - 1, by omega⟩
    have e : k = 8 := by omega
    subst e
    rw [f_X4_moveAll_47, if_pos (by decide), gb_let_s]
    have h4 : g.1 (b + 4) 0 = sMv β 8 0 := hc.2.2.2.2.2.2.1 0 (by omega)
    rw [h4, sMv_lo (by omega)]
    refine ⟨_, rfl, ?_⟩
    have hc' : cvB sh g b (bCur β (sMv β (bN β))) := cvB_curc hc fun i hi => by
      unfold ms_rl at hi
      by_cases q : 3 ≤ i ∧ i < 3 + bN β
      · obtain ⟨a, ha⟩ : ∃ a, i = 3 + a := ⟨i - 3, by omega⟩
        subst ha
        rw [sMv_hi (by omega), sMv_hi (by omega)]
      · rw [sMv_lo q, sMv_lo (by omega)]
    obtain ⟨c0, c1, c2, c3, c4, c5, c6, c7, c8, c9⟩ := hc'
    have fr : ∀ c q, ¬ c = b + 4 → eqc g (gb_pi g (b + 4) 0 (cur β 0 + 1)) c q := fun c q hq => ⟨pi_n (by omega), rfl, rfl⟩
    refine ⟨(fr _ _ (by omega)).1.trans c0, fun i j hi hj => ?_, (fr _ _ (by omega)).1.trans c2, fun p i hp hi => (fr _ _ (by omega)).1.trans (c3 p i hp hi), (fr _ _ (by omega)).1.trans c4, fun j hj => (fr _ _ (by omega)).1.trans (c5 j hj), fun j hj => ?_, (fr _ _ (by omega)).1.trans c7, fun q lw hq => ?_, (fr _ _ (by omega)).1.trans c9⟩
    · rw [(fr _ _ (by omega)).1, c1 i j hi hj]
      show (if j = 1 then sMv β (bN β) (3 + i) else if j = 5 then sMv β (bN β) (11 + i) else if j = 2 then sMv β (bN β) (19 + i) else bT β i j) = if j = 1 then sPass β (3 + i) else if j = 5 then sPass β (11 + i) else if j = 2 then sPass β (19 + i) else bT β i j
      unfold sPass
      rw [if_neg (show ¬ 3 + i = 0 by omega), if_neg (show ¬ 11 + i = 0 by omega), if_neg (show ¬ 19 + i = 0 by omega)]
    · show _ = sPass β j
      unfold sPass
      by_cases ej : j = 0
      · subst ej; rw [pi_e, if_pos rfl]
      · rw [pi_n (by omega), if_neg ej]; exact c6 j hj
    · obtain ⟨p, hp, hl⟩ := c8 q lw hq
      exact ⟨p, hp, cvL_fr hl fun c k hc => fr c k (by omega)⟩
  | succ m ih =>
    intro k fuel g h hf hc h56
    obtain ⟨f, rfl⟩ : ∃ f, fuel = f + 1 := ⟨fuel - 1, by omega⟩
    have hwk : wfB (bCur β (sMv β k)) := wfB_cur hw (wfC_mv hw (by omega))
    rw [f_X4_moveAll_47, if_neg (by rw [show (8 : Int32) = Int32.ofNat 8 from rfl, o_le (by omega) (by omega)]; omega)]
    by_cases q : k < bN β
    · have hkn : k < bN (bCur β (sMv β k)) := q
      rw [rd_t (y := 1) (j := 1) hwk hc rfl hkn rfl (by omega), gb_bd_s]
      simp only []
      rw [gb_ck_s (o_in (by omega) (by omega)), o_cl (by omega), h56 k q, show bT (bCur β (sMv β k)) k 1 = cur β (3 + k) from sMv_lo (by omega), near_e, gb_bd_s]
      simp only []
      rw [wr_t (n := bN β) (i := k) (y := 1) (j := 1) hn hc.1 rfl q rfl (by omega), gb_bd_s, o_succ]
      refine ih (k + 1) f _ (by omega) (by omega) ?_ (fun q hq => (pi_n (by omega)).trans (h56 q hq))
      have z := wr_cur (v := ms_near (cur β (3 + k) + ms_mv β k) 1 12) (by omega) hwk hc hkn (t := 1) (p := 3 + k) (by omega)
      rw [bCur_bCur] at z
      refine cvB_curc z fun i hi => ?_
      by_cases e : i = 3 + k
      · subst e; rw [sSet_e, sMv_hi (by omega)]
      · rw [sSet_n e, cur_cur]
        by_cases e2 : 3 ≤ i ∧ i < 3 + k
        · obtain ⟨a, ha⟩ : ∃ a, i = 3 + a := ⟨i - 3, by omega⟩
          subst ha
          rw [sMv_hi (by omega), sMv_hi (by omega)]
        · rw [sMv_lo (by omega), sMv_lo (by omega)]
    · rw [rd_f hwk hc.1 (by rw [im, o_int (by omega)]; show ¬ ((0 : Int) ≤ k ∧ (k : Int) ≤ (bN β : Int) - 1); omega), gb_bd_s]
      simp only []
      rw [gb_ck_s (o_in (by omega) (by omega)), near_e, gb_bd_s]
      simp only []
      rw [wr_f (n := bN β) hn hc.1 (by rw [im, o_int (by omega)]; omega), gb_bd_s, o_succ]
      refine ih (k + 1) f _ (by omega) (by omega) (cvB_curc hc fun i hi => ?_) h56
      unfold ms_rl at hi
      by_cases e2 : 3 ≤ i ∧ i < 3 + k
      · obtain ⟨a, ha⟩ : ∃ a, i = 3 + a := ⟨i - 3, by omega⟩
        subst ha
        rw [sMv_hi (by omega), sMv_hi (by omega)]
      · rw [sMv_lo (by omega), sMv_lo (by omega)]
theorem mA_7 {sh : List gb_Sh} {b : Nat} {β : ms_B} {q2 : Option Nat} (hb : b + 5 < 53) (hw : wfB β) : ∀ (m k fuel : Nat) (g : gb_G), k + m = 8 → m < fuel → cvB sh g b β → lq sh g q2 (ms_lw β (bF β)) → (∀ q, q < k → q < bN β → g.1 56 q = ms_mv β q) → gb_T (f_X4_moveAll_7 sh b fuel g q2 (Int32.ofNat k)) (fun o => cvB sh o b (bCur β (sPass β))) := by
  have hn := hw.1
  intro m
  induction m with
  | zero =>
    intro k fuel g h hf hc hL h56
    obtain ⟨f, rfl⟩ : ∃ f, fuel = f + 1 := ⟨fuel - 1, by omega⟩
    have e : k = 8 := by omega
    subst e
    rw [f_X4_moveAll_7, if_pos (by decide)]
    have hcc : cvB sh g b (bCur β (sMv β 0)) := by
      have z : ∀ i, sMv β 0 i = cur β i := fun i => sMv_lo (by omega)
      refine cvB_cur hw hc (fun a ha => ⟨?_, ?_, ?_⟩) (fun _ _ _ _ _ _ _ => rfl) (fun j hj => ?_) (fun c k _ => ⟨rfl, rfl, rfl⟩)
      · rw [z, cur_now (by omega)]; exact hc.2.1 a 1 ha (by omega)
      · rw [z, cur_la (by omega)]; exact hc.2.1 a 5 ha (by omega)
      · rw [z, cur_we]; exact hc.2.1 a 2 ha (by omega)
      · rw [z, cur_te hj]; exact hc.2.2.2.2.2.2.1 j hj
    exact mA_47 hb hw 8 0 gb_N g (by omega) (by unfold gb_N; omega) hcc fun q hq => h56 q (by omega) hq
  | succ m ih =>
    intro k fuel g h hf hc hL h56
    obtain ⟨f, rfl⟩ : ∃ f, fuel = f + 1 := ⟨fuel - 1, by omega⟩
    rw [f_X4_moveAll_7, if_neg (by rw [show (8 : Int32) = Int32.ofNat 8 from rfl, o_le (by omega) (by omega)]; omega)]
    by_cases q : k < bN β
    · rw [has_t hn hc.1 (o_im _ q (by omega)), bt]
      obtain ⟨o, e, v⟩ := tell_c (sh := sh) (kd := 0) hb hw hc q (by omega) hL
      have F := w_X4_tell e
      refine gb_T.bs e ?_
      unfold f_X4_moveAll_38
      rw [gb_ck_s (o_in (by omega) (by omega)), o_cl (by omega), gb_let_s, v, o_succ]
      refine ih (k + 1) f _ (by omega) (by omega) (cvB_fr hc fun c k q => ?_) (lq_fr hL fun c k q => ?_) fun q' q1 q2 => ?_
      · have z := F c k (by omega)
        exact ⟨(pi_n (by omega)).trans z.1, z.2.1, z.2.2⟩
      · have z := F c k (by omega)
        exact ⟨(pi_n (by omega)).trans z.1, z.2.1, z.2.2⟩
      · by_cases eq : q' = k
        · subst eq; rw [pi_e]; rfl
        · rw [pi_n (by omega), (F 56 q' (by omega)).1]; exact h56 q' (by omega) q2
    · rw [has_f hn hc.1 (by rw [im, o_int (by omega)]; omega), bf]
      unfold f_X4_moveAll_38
      rw [gb_ck_s (o_in (by omega) (by omega)), o_cl (by omega), gb_let_s, o_succ]
      refine ih (k + 1) f _ (by omega) (by omega) (cvB_fr hc fun c k q => ⟨pi_n (by omega), rfl, rfl⟩) (lq_fr hL fun c k q => ⟨pi_n (by omega), rfl, rfl⟩) fun q' q1 q2 => ?_
      rw [pi_n (by omega)]; exact h56 q' (by omega) q2
theorem mA {sh : List gb_Sh} {g : gb_G} {b : Nat} {β : ms_B} (hb : b + 5 < 53) (hw : wfB β) (hc : cvB sh g b β) : gb_T (f_X4_moveAll sh g b) (fun o => cvB sh o b (bCur β (sPass β))) := by
  obtain ⟨q2, e2, hL⟩ := lif_c hw hc
  unfold f_X4_moveAll
  rw [e2, gb_bd_s]
  exact mA_7 hb hw 8 0 gb_N g (by omega) (by unfold gb_N; omega) hc hL fun q hq => by omega
/-! the reference -/
theorem ms_w_c {β : ms_B} {s : Nat → Int32} {i : Nat} (hi : i < 8) (h1 : s (3 + i) = bT β i 1) (h5 : s (11 + i) = bT β i 5) (h2 : s (19 + i) = bT β i 2) (t0 : s 0 = bTe β 0) (t2 : s 2 = bTe β 2) : ms_w (bCur β s) i = ms_w β i := by
  funext j
  unfold ms_w
  show (if j = 0 then Int32.ofNat i else if j = 1 then bT β i 0 else if j = 2 then s (3 + i) else if j = 3 then s (19 + i) else if j = 4 then bT β i 3 else if j = 5 then s (11 + i) else if j = 6 then bT β i 4 else if j = 7 then s 0 else s 2) = _
  rw [h1, h5, h2, t0, t2]
theorem pI_m {sh : List gb_Sh} {β : ms_B} (hw : wfB β) : ∀ (m k fuel : Nat) (g : gb_G), k + m = bN β → m < fuel → mvB (g.1 79) (bCur β (sMv β k)) → g.1 77 20 = 0 → gb_T (f_X11_passIt_2 sh fuel g (Int32.ofNat k)) (fun o => mvB (o.1 79) (bCur β (sPass β))) := by
  have hn := hw.1
  intro m
  induction m with
  | zero =>
    intro k fuel g h hf hm h20
    obtain ⟨f, rfl⟩ : ∃ f, fuel = f + 1 := ⟨fuel - 1, by omega⟩
    have e : k = bN β := by omega
    subst e
    have hwk : wfB (bCur β (sMv β (bN β))) := wfB_cur hw (wfC_mv hw (by omega))
    rw [f_X11_passIt_2, if_pos (by rw [hm.1]; exact Int32.le_refl _), gb_let_s]
    refine ⟨_, rfl, ?_⟩
    have z := wr_curm (v := g.1 79 5 + 1) hwk hm (p := 0) (by unfold ms_rl; omega)
    rw [bCur_bCur] at z
    have e5 : g.1 79 5 = cur β 0 := by
      have z : g.1 79 (5 + 0) = sMv β (bN β) 0 := hm.2.2.2.2.2.2.1 0 (by omega)
      exact z.trans (sMv_lo (by omega))
    have e : sSet (bCur β (sMv β (bN β))) 0 (g.1 79 5 + 1) = sPass β := by
      funext i
      unfold sSet sPass
      by_cases ei : i = 0
      · rw [if_pos ei, if_pos ei, e5]
      · rw [if_neg ei, if_neg ei, cur_cur]
    rw [e] at z
    exact z
  | succ m ih =>
    intro k fuel g h hf hm h20
    obtain ⟨f, rfl⟩ : ∃ f, fuel = f + 1 := ⟨fuel - 1, by omega⟩
    have hwk : wfB (bCur β (sMv β k)) := wfB_cur hw (wfC_mv hw (by omega))
    have q : k < bN β := by omega
    have hkn : k < bN (bCur β (sMv β k)) := q
    rw [f_X11_passIt_2, if_neg (by rw [hm.1, o_le (by show bN β < _; omega) (by omega)]; show ¬ bN β ≤ k; omega), show (8 : Int32) = Int32.ofNat 8 from rfl, o_add, gb_ck_s (o_in (by omega) (by omega))]
    obtain ⟨o, e, v⟩ := mov_m (sh := sh) hwk hm h20 hkn
    have F := w_X11_movesOf e
    refine gb_T.bs e ?_
    have e8 : g.1 79 (8 + k) = cur β (3 + k) := by
      have := (hm.2.1 k hkn).2.1
      exact Eq.trans this (sMv_lo (by omega))
    have ev : o.2 = ms_mv β k := by
      rw [v]
      unfold ms_mv ms_tl
      have ew : ms_w (bCur β (sMv β k)) k = ms_w β k := ms_w_c (by omega) ((sMv_lo (by omega)).trans (cur_now (by omega))) ((sMv_lo (by omega)).trans (cur_la (by omega))) ((sMv_lo (by omega)).trans cur_we) ((sMv_lo (by omega)).trans (cur_te (by omega))) ((sMv_lo (by omega)).trans (cur_te (by omega)))
      rw [ew]
      rfl
    rw [ev, o_cl (by omega), e8, wi_e (by decide), gb_bd_s]
    simp only []
    rw [gb_ck_s (o_in (by omega) (by omega)), gb_let_s, o_succ]
    have hm1 : mvB (o.1.1 79) (bCur β (sMv β k)) := mvB_fr hm hwk fun k _ => (F 79 k (by omega)).1
    have z := wr_curm (v := ms_near (cur β (3 + k) + ms_mv β k) 1 12) hwk hm1 (p := 3 + k) (by unfold ms_rl; show _ ∨ (3 ≤ 3 + k ∧ 3 + k < 3 + bN β) ∨ _; omega)
    rw [bCur_bCur, show 5 + (3 + k) = 8 + k by omega] at z
    have es : sSet (bCur β (sMv β k)) (3 + k) (ms_near (cur β (3 + k) + ms_mv β k) 1 12) = sMv β (k + 1) := by
      funext i
      by_cases e : i = 3 + k
      · subst e; rw [sSet_e, sMv_hi (by omega)]
      · rw [sSet_n e, cur_cur]
        by_cases e2 : 3 ≤ i ∧ i < 3 + k
        · obtain ⟨a, ha⟩ : ∃ a, i = 3 + a := ⟨i - 3, by omega⟩
          subst ha
          rw [sMv_hi (by omega), sMv_hi (by omega)]
        · rw [sMv_lo (by omega), sMv_lo (by omega)]
    rw [es] at z
    exact ih (k + 1) f _ (by omega) (by omega) z (by rw [pi_n (by omega), (F 77 20 (by omega)).1]; exact h20)
theorem pI {sh : List gb_Sh} {g : gb_G} {β : ms_B} (hw : wfB β) (hm : mvB (g.1 79) β) (h20 : g.1 77 20 = 0) : gb_T (f_X11_passIt sh g) (fun o => mvB (o.1 79) (bCur β (sPass β))) := by
  have hn := hw.1
  refine pI_m hw (bN β) 0 gb_N g (by omega) (by unfold gb_N; omega) ?_ h20
  exact mvB_cur hw hm (fun i hi => (mv_cur hw hm hi).trans (sMv_lo (by omega)).symm) fun k _ _ => rfl
theorem wfh_pa {β : ms_B} (hw : wfB β) (h : ¬ bTe β 0 = 999) : wfh 3 0 (bN β) (cur β) (sPass β) := by
  have hn := hw.1
  have h0 := hw.2.2.2.2.2.2.2.2.2.2.1
  have h1 : ¬ (bTe β 0).toInt = (999 : Int32).toInt := fun q => h (Int32.toInt_inj.1 q)
  rw [show (999 : Int32).toInt = 999 from rfl] at h1
  refine ⟨by omega, fun q => by omega, fun i hi q1 q2 q3 => ?_, fun q => by omega, fun q => by omega, fun q => by omega, fun q => ⟨?_, ?_, fun i hi => (wfC_cur hw).1 i hi |>.1⟩⟩
  · unfold ms_rl at hi
    unfold sPass
    rw [if_neg (by omega), sMv_lo (by omega)]
  · rw [cur_te (by omega)]; rw [im] at *; omega
  · unfold sPass; rw [if_pos rfl]
theorem pM_c {sh : List gb_Sh} {β : ms_B} {H : ms_H} {g : gb_G} (hw : wfB β) (hc : cvB sh g 1 β) (hh : cvH g 33 H (bN β)) (hN : H.1 ≤ 16) (h : ¬ bTe β 0 = 999) : gb_T (f_X10_passMonth sh g) (fun o => cvB sh o.1 1 (bCur β (sPass β)) ∧ cvH o.1 33 (hPush H 3 0 (cur β)) (bN β) ∧ o.2 = bTe β 0 + 1) := by
  have h0 := hw.2.2.2.2.2.2.2.2.2.2.1
  have h1 : ¬ (bTe β 0).toInt = (999 : Int32).toInt := fun q => h (Int32.toInt_inj.1 q)
  rw [show (999 : Int32).toInt = 999 from rfl] at h1
  unfold f_X10_passMonth
  rw [show g.1 (1 + 4) 0 = bTe β 0 from hc.2.2.2.2.2.2.1 0 (by omega), if_pos (by rw [Int32.lt_iff_toInt_lt, show (999 : Int32).toInt = 999 from rfl]; rw [im] at h0; omega)]
  obtain ⟨g1, e1, h1⟩ := rem_c (sh := sh) (K := 3) (j := 0) (x2 := -1) hw hc hh hN (by omega) (fun q => by omega)
  have F1 := w_X3_remember e1
  refine gb_T.bs e1 ?_
  have hc1 : cvB sh g1 1 β := cvB_fr hc fun c k q => F1 c k (by omega)
  obtain ⟨g2, e2, h2⟩ := mA (sh := sh) (b := 1) (by omega) hw hc1
  have F2 := w_X4_moveAll e2
  refine gb_T.bs e2 ?_
  refine ⟨_, rfl, h2, cvH_fr h1 fun c k q => F2 c k (by omega), ?_⟩
  have z : g2.1 (1 + 4) 0 = sPass β 0 := h2.2.2.2.2.2.2.1 0 (by omega)
  show g2.1 (1 + 4) 0 = _
  rw [z, sPass, if_pos rfl, cur_te (by omega)]
theorem pN_m {sh : List gb_Sh} {β : ms_B} {H : ms_H} {g : gb_G} (hw : wfB β) (hm : mvB (g.1 79) β) (hh : mvH g H (bN β)) (hN : H.1 ≤ 16) (h20 : g.1 77 20 = 0) (h : ¬ bTe β 0 = 999) : gb_T (f_X11_passNow sh g) (fun o => mvB (o.1.1 79) (bCur β (sPass β)) ∧ mvH o.1 (hPush H 3 0 (cur β)) (bN β) ∧ o.2 = bTe β 0 + 1) := by
  unfold f_X11_passNow
  rw [show g.1 79 5 = bTe β 0 from hm.2.2.2.2.2.2.1 0 (by omega), if_neg h]
  obtain ⟨g1, e1, h1⟩ := rem_m (sh := sh) (K := 3) (j := 0) hw hm hh hN
  have F1 := w_X11_remember e1
  refine gb_T.bs e1 ?_
  have hm1 : mvB (g1.1 79) β := mvB_fr hm hw fun k _ => (F1 79 k (by omega)).1
  obtain ⟨g2, e2, h2⟩ := pI (sh := sh) hw hm1 (by rw [(F1 77 20 (by omega)).1]; exact h20)
  have F2 := w_X11_passIt e2
  refine gb_T.bs e2 ?_
  refine ⟨_, rfl, h2, mvH_fr ?_ h1 fun c k q => F2 c k (by omega), ?_⟩
  · unfold hPush hAdd hDrop
    split <;> simp <;> omega
  · have z : g2.1 79 5 = sPass β 0 := h2.2.2.2.2.2.2.1 0 (by omega)
    show g2.1 79 5 = _
    rw [z, sPass, if_pos rfl, cur_te (by omega)]
set_option maxRecDepth 100000 in
theorem p_pass : ps_pass gb_I := by
  intro sh g hI
  have h20 := hI.2.1.2
  obtain ⟨β, ⟨hw, hc, hm⟩, hU⟩ := hI.2.2.2.2.2.2.2.2
  obtain ⟨H, hh, hhm, hwH⟩ := U_of hw hm hU
  have hn := hw.1
  have hN := hwH.1
  have h0 := hw.2.2.2.2.2.2.2.2.2.2.1
  by_cases h : bTe β 0 = 999
  · refine rf_b (fun g => f_X11_pass sh g) (-3) 3 (by omega) rfl (by decide) hI ?_ fun g1 e1 e2 _ => ?_
    · unfold f_X10_pass f_X10_passMonth
      rw [show g.1 (1 + 4) 0 = bTe β 0 from hc.2.2.2.2.2.2.1 0 (by omega), h, if_neg (by decide), gb_bd_s]
      simp only []
      rw [st_n 3 (by omega) rfl (by decide), rf 3 (by omega) rfl]
    · show f_X11_pass sh g1 = _
      unfold f_X11_pass f_X11_passNow
      rw [gb_let_s, r79, e1, show g.1 79 5 = bTe β 0 from hm.2.2.2.2.2.2.1 0 (by omega), if_pos h, gb_bd_s]
  · have h1 : ¬ (bTe β 0).toInt = (999 : Int32).toInt := fun q => h (Int32.toInt_inj.1 q)
    rw [show (999 : Int32).toInt = 999 from rfl] at h1
    have hv : 0 ≤ (bTe β 0 + 1).toInt := by
      rw [im] at h0
      rw [i_add, show (1 : Int32).toInt = 1 from rfl]
      · omega
      · rw [show (1 : Int32).toInt = 1 from rfl]; omega
      · rw [show (1 : Int32).toInt = 1 from rfl]; omega
    exact ok_BH (f2 := fun g1 => f_X11_passNow sh g1) (bTe β 0 + 1) hv hI (wfB_cur hw (wfC_pass hw h)) (by rw [cur_curf]; exact wfH_push hwH (wfh_pa hw h)) (pM_c hw hc hh hN h) (fun o => w_X10_passMonth) (fun c k q => by omega) (fun g1 e => pN_m hw (by rw [eq79 e]; exact hm) (mvH_e hN hhm e) hN (by rw [(e 77 20 (by omega) (by omega) (by omega)).1]; exact h20) h) (fun g1 o => w_X11_passNow) (fun c k q => by omega)
