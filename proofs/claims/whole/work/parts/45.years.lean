/-! ===== years ===== -/
theorem xor_nn {x y : Int32} (hx : 0 ≤ x.toInt) (hy : 0 ≤ y.toInt) : 0 ≤ x ^^^ y := by
  rw [Int32.le_iff_toInt_le, Int32.toInt_zero]
  have h := BitVec.msb_eq_toInt (x := (x ^^^ y).toBitVec)
  have hx1 := BitVec.msb_eq_toInt (x := x.toBitVec)
  have hy1 := BitVec.msb_eq_toInt (x := y.toBitVec)
  rw [show (x ^^^ y).toBitVec = x.toBitVec ^^^ y.toBitVec from rfl, BitVec.msb_xor, hx1, hy1] at h
  have e1 : x.toBitVec.toInt = x.toInt := rfl
  have e2 : y.toBitVec.toInt = y.toInt := rfl
  have e3 : (x.toBitVec ^^^ y.toBitVec).toInt = (x ^^^ y).toInt := rfl
  rw [e1, e2, e3, decide_eq_false (by omega), decide_eq_false (by omega)] at h
  have := of_decide_eq_false h.symm
  omega
theorem rem_N {a d : Nat} (ha : a < 2147483648) (h0 : 0 < d) (hd : d < 2147483648) : gb_rem (Int32.ofNat a) (Int32.ofNat d) = Int32.ofNat (a % d) := pk_rem ha h0 hd
def nxd (s : Nat) : Nat := (s * 1103 + 12345) % 1000003
theorem nxd_b (s : Nat) : nxd s < 1000003 := Nat.mod_lt _ (by omega)
theorem nd_c {sh : List gb_Sh} {g : gb_G} {s : Nat} (hs : s < 1000003) : f_X10_nextDraw sh g (Int32.ofNat s) = some (g, Int32.ofNat (nxd s)) := by
  unfold f_X10_nextDraw
  rw [n64 (by omega), show (1103 : Int64) = Int64.ofNat 1103 from rfl, show (12345 : Int64) = Int64.ofNat 12345 from rfl, show (1000003 : Int64) = Int64.ofNat 1000003 from rfl, m64, a64, l_rem (by omega) (by omega), i32]
  rfl
theorem fm_c {sh : List gb_Sh} {g : gb_G} {s n : Nat} (hs : s < 1000003) (hn : 0 < n) (hn2 : n ≤ 8) : f_J9_floorMod_7cf53 sh g (Int32.ofNat s) (Int32.ofNat n) = some (g, Int32.ofNat (s % n)) := by
  unfold f_J9_floorMod_7cf53
  rw [gb_nz_s (show ¬ Int32.ofNat n = 0 from fun z => by have := o_inj (j := 0) (by omega) (by omega) z; omega), if_pos (xor_nn (by rw [o_int (by omega)]; omega) (by rw [o_int (by omega)]; omega)), rem_N (by omega) hn (by omega)]
theorem dr_m {sh : List gb_Sh} {g : gb_G} {s n : Nat} (hs : s < 1000003) (hn : 0 < n) (hn2 : n ≤ 8) (h : g.2.1 77 53 = Int64.ofNat s) : f_X11_draw sh g (Int32.ofNat n) = some (gb_pj g 77 53 (Int64.ofNat (nxd s)), Int32.ofNat (nxd s % n)) := by
  have hb := nxd_b s
  unfold f_X11_draw
  have e : gb_reml (g.2.1 77 53 * 1103 + 12345) 1000003 = Int64.ofNat (nxd s) := by
    rw [h, show (1103 : Int64) = Int64.ofNat 1103 from rfl, show (12345 : Int64) = Int64.ofNat 12345 from rfl, show (1000003 : Int64) = Int64.ofNat 1000003 from rfl, m64, a64, l_rem (by omega) (by omega)]
    rfl
  rw [e, gb_let_s, pj_e, n64 (by omega), gb_nzl_s (fun z => by have := l_eq0 (by omega) z; omega), l_rem (by omega) (by omega), i32]
noncomputable def sBf (β : ms_B) (j d : Nat) : Nat → Int32 := if d = 0 then sSet β (11 + j) 1 else if d = 1 then sSet β (11 + j) 0 else if d = 2 then sSet β (3 + j) (ms_near (bT β j 1 + 1) 1 12) else sSet β (3 + j) (ms_near (bT β j 1 + (-1)) 1 12)
theorem wfC_bf {β : ms_B} {j d : Nat} (hw : wfB β) (hj : j < bN β) : wfC (bN β) (sBf β j d) := by
  unfold sBf
  split
  · exact wfC_set hw hj (Or.inr (Or.inl ⟨rfl, by rw [im]; decide⟩))
  split
  · exact wfC_set hw hj (Or.inr (Or.inl ⟨rfl, by rw [im]; decide⟩))
  split
  · exact wfC_set hw hj (Or.inl ⟨rfl, near_im rfl rfl (by omega)⟩)
  · exact wfC_set hw hj (Or.inl ⟨rfl, near_im rfl rfl (by omega)⟩)
theorem sBf_te {β : ms_B} {j d i : Nat} (hi : i < 3) : sBf β j d i = bTe β i := by
  unfold sBf
  split
  · rw [sSet_n (by omega), cur_te hi]
  split
  · rw [sSet_n (by omega), cur_te hi]
  split
  · rw [sSet_n (by omega), cur_te hi]
  · rw [sSet_n (by omega), cur_te hi]
theorem mn12 : ∀ i, i < 13 → 1 ≤ i → (if Int32.ofNat i + 1 < 12 then Int32.ofNat i + 1 else 12) = ms_near (Int32.ofNat i + 1) 1 12 := by decide +kernel
theorem mx01 : ∀ i, i < 13 → 1 ≤ i → (if 1 < Int32.ofNat i - 1 then Int32.ofNat i - 1 else 1) = ms_near (Int32.ofNat i + (-1)) 1 12 := by decide +kernel
theorem bf_c {sh : List gb_Sh} {g : gb_G} {b j d : Nat} {β : ms_B} (hb : b + 5 < 105) (hw : wfB β) (hc : cvB sh g b β) (hj : j < bN β) (hd : d < 4) : gb_T (f_X0_befall sh g b (Int32.ofNat j) (Int32.ofNat d)) (fun o => cvB sh o b (bCur β (sBf β j d))) := by
  have hn := hw.1
  obtain ⟨i, hi, ei⟩ := o_of (n := 13) (x := bT β j 1) (im_mo (hw.2.2.2.2.2.2.1 j hj).2.1 (by omega) (by omega))
  have hi1 : 1 ≤ i := by
    have := (hw.2.2.2.2.2.2.1 j hj).2.1.1
    rw [ei, o_int (by omega)] at this
    omega
  unfold f_X0_befall sBf
  rw [rd_t (y := 1) (j := 1) hw hc rfl hj rfl (by omega), gb_bd_s]
  simp only []
  have hd' : d = 0 ∨ d = 1 ∨ d = 2 ∨ d = 3 := by omega
  rcases hd' with rfl | rfl | rfl | rfl
  · rw [if_pos (by decide), if_pos rfl, wr_t (y := 5) (j := 5) hn hc.1 rfl hj rfl (by omega), gb_bd_s]
    exact ⟨_, rfl, wr_cur hb hw hc hj (t := 5) (p := 11 + j) (by omega)⟩
  · rw [if_neg (by decide), if_pos (by decide), if_neg (by omega), if_pos rfl, wr_t (y := 5) (j := 5) hn hc.1 rfl hj rfl (by omega), gb_bd_s]
    exact ⟨_, rfl, wr_cur hb hw hc hj (t := 5) (p := 11 + j) (by omega)⟩
  · rw [if_neg (by decide), if_neg (by decide), if_pos (by decide), if_neg (by omega), if_neg (by omega), if_pos rfl]
    have e : f_J9_min_7cf53 sh g 12 (bT β j 1 + 1) = some (g, ms_near (bT β j 1 + 1) 1 12) := by
      unfold f_J9_min_7cf53
      rw [ei, ← mn12 i hi hi1]
      split <;> rfl
    rw [e, gb_bd_s]
    simp only []
    rw [wr_t (y := 1) (j := 1) hn hc.1 rfl hj rfl (by omega), gb_bd_s]
    exact ⟨_, rfl, wr_cur hb hw hc hj (t := 1) (p := 3 + j) (by omega)⟩
  · rw [if_neg (by decide), if_neg (by decide), if_neg (by decide), if_neg (by omega), if_neg (by omega), if_neg (by omega)]
    have e : f_J9_max_7cf53 sh g 1 (bT β j 1 - 1) = some (g, ms_near (bT β j 1 + (-1)) 1 12) := by
      unfold f_J9_max_7cf53
      rw [ei, ← mx01 i hi hi1]
      split <;> rfl
    rw [e, gb_bd_s]
    simp only []
    rw [wr_t (y := 1) (j := 1) hn hc.1 rfl hj rfl (by omega), gb_bd_s]
    exact ⟨_, rfl, wr_cur hb hw hc hj (t := 1) (p := 3 + j) (by omega)⟩
noncomputable def yB (σ : Nat × ms_B × Int32) : ms_B := bCur σ.2.1 (sBf σ.2.1 (nxd σ.1 % bN σ.2.1) (nxd (nxd σ.1) % 4))
noncomputable def yP (σ : Nat × ms_B × Int32) : ms_B := bCur (yB σ) (sPass (yB σ))
noncomputable def yS (σ : Nat × ms_B × Int32) : Nat × ms_B × Int32 := (nxd (nxd σ.1), yP σ, if σ.2.2 < PN (yP σ) then PN (yP σ) else σ.2.2)
noncomputable def yR : Nat → Nat × ms_B × Int32 → Nat × ms_B × Int32
  | 0, σ => σ
  | m + 1, σ => if bTe σ.2.1 0 = 999 then σ else yR m (yS σ)
theorem yR_e {m : Nat} {σ : Nat × ms_B × Int32} (h : bTe σ.2.1 0 = 999) : yR m σ = σ := by
  cases m with
  | zero => rfl
  | succ m => rw [yR, if_pos h]
/-- what a year leaves as it was -/
def yK (β β' : ms_B) : Prop := ∀ s, bCur β' s = bCur β s
theorem te_cur {β : ms_B} {s : Nat → Int32} {i : Nat} : bTe (bCur β s) i = s i := rfl
theorem yB_te {σ : Nat × ms_B × Int32} : bTe (yB σ) 0 = bTe σ.2.1 0 := by
  unfold yB
  rw [te_cur]
  exact sBf_te (by omega)
theorem yS_w {σ : Nat × ms_B × Int32} (hw : wfB σ.2.1) (hn : 0 < bN σ.2.1) (h : ¬ bTe σ.2.1 0 = 999) : wfB (yB σ) ∧ wfB (yP σ) := by
  have h1 : wfB (yB σ) := wfB_cur hw (wfC_bf hw (Nat.mod_lt _ hn))
  exact ⟨h1, wfB_cur h1 (wfC_pass h1 (by rw [yB_te]; exact h))⟩
theorem yP_k {β : ms_B} {σ : Nat × ms_B × Int32} (h : yK β σ.2.1) : yK β (yP σ) := by
  intro s
  unfold yP yB
  rw [bCur_bCur, bCur_bCur, h s]
theorem PN_nn {β : ms_B} (hw : wfB β) : 0 ≤ (PN β).toInt := by
  have hF := wfF_of (L := ms_lw β (bF β)) hw
  have hn := hw.1
  unfold PN
  split
  · decide
  · have b1 : nsum (fun i => fC β (ms_lw β (bF β)) i * fP β i) (bN β) ≤ bN β * 1188 := nsum_b _ fun i hi => Nat.mul_le_mul (hF.2 i hi).1 (hF.2 i hi).2.2.2.2
    have b3 : TH (bN β) (fC β (ms_lw β (bF β))) (fB β) (fP β) 100 ≤ 100 * (bN β * 1188) := by
      unfold TH
      split
      · omega
      · exact Nat.le_trans (Nat.div_le_self _ _) (Nat.mul_le_mul_left _ b1)
    rw [o_int (by omega)]
    omega
theorem y999 {x : Int32} (h : im 0 999 x) : 999 ≤ x ↔ x = 999 := by
  rw [Int32.le_iff_toInt_le, show (999 : Int32).toInt = 999 from rfl]
  rw [im] at h
  constructor
  · intro q
    refine Int32.toInt_inj.1 ?_
    rw [show (999 : Int32).toInt = 999 from rfl]
    omega
  · intro q; rw [q]; decide
theorem y_c {sh : List gb_Sh} {n : Nat} {R : Nat → Int32} {L : Nat → Option Nat} (hn60 : n ≤ 60) : ∀ (m k fuel : Nat) (g : gb_G) (σ : Nat × ms_B × Int32), k + m = n → m < fuel → wfB σ.2.1 → 0 < bN σ.2.1 → cvB sh g 13 σ.2.1 → σ.1 < 1000003 → (∀ k, g.1 76 k = R k) → (∀ k, g.2.2 18 k = L k) → gb_T (f_X10_years_63 sh fuel g (Int32.ofNat n) σ.2.2 (Int32.ofNat σ.1) (Int32.ofNat k)) (fun o => o.2 = (yR m σ).2.2 ∧ cvB sh o.1 13 (yR m σ).2.1 ∧ o.1.1 0 18 = 0 ∧ (∀ k, o.1.1 76 k = R k) ∧ ∀ k, o.1.2.2 18 k = L k) := by
  intro m
  induction m with
  | zero =>
    intro k fuel g σ h hf hw hn0 hc hs hR hL0
    obtain ⟨f, rfl⟩ : ∃ f, fuel = f + 1 := ⟨fuel - 1, by omega⟩
    have e : k = n := by omega
    subst e
    rw [f_X10_years_63, if_pos (Int32.le_refl _)]
    exact ⟨(gb_pi g 0 18 0, σ.2.2), rfl, rfl, cvB_fr hc fun c k q => ⟨pi_n (by omega), rfl, rfl⟩, pi_e, fun k => (pi_n (by omega)).trans (hR k), hL0⟩
  | succ m ih =>
    intro k fuel g σ h hf hw hn0 hc hs hR hL0
    obtain ⟨f, rfl⟩ : ∃ f, fuel = f + 1 := ⟨fuel - 1, by omega⟩
    have hn8 := hw.1
    have ht : g.1 (13 + 4) 0 = bTe σ.2.1 0 := hc.2.2.2.2.2.2.1 0 (by omega)
    rw [f_X10_years_63, if_neg (by rw [o_le (by omega) (by omega)]; omega), ht]
    by_cases q : bTe σ.2.1 0 = 999
    · rw [if_pos ((y999 hw.2.2.2.2.2.2.2.2.2.2.1).2 q), yR_e q]
      exact ⟨(gb_pi g 0 18 0, σ.2.2), rfl, rfl, cvB_fr hc fun c k q => ⟨pi_n (by omega), rfl, rfl⟩, pi_e, fun k => (pi_n (by omega)).trans (hR k), hL0⟩
    · obtain ⟨w1, w2⟩ := yS_w hw hn0 q
      have b1 := nxd_b σ.1
      have b2 := nxd_b (nxd σ.1)
      rw [if_neg (fun z => q ((y999 hw.2.2.2.2.2.2.2.2.2.2.1).1 z)), nd_c hs, gb_bd_s]
      simp only []
      have mx : f_J9_max_7cf53 sh g 1 (g.1 13 0) = some (g, Int32.ofNat (bN σ.2.1)) := by
        unfold f_J9_max_7cf53
        rw [hc.1]
        by_cases z : (1 : Int32) < Int32.ofNat (bN σ.2.1)
        · rw [if_pos z]
        · rw [if_neg z]
          rw [show (1 : Int32) = Int32.ofNat 1 from rfl, o_lt (by omega) (by omega)] at z
          rw [show bN σ.2.1 = 1 by omega]; rfl
      rw [mx, gb_bd_s]
      simp only []
      rw [fm_c b1 hn0 hn8, gb_bd_s]
      simp only []
      rw [nd_c b1, gb_bd_s]
      simp only []
      rw [show (4 : Int32) = Int32.ofNat 4 from rfl, rem_N (by omega) (by omega) (by omega)]
      obtain ⟨g1, e1, c1⟩ := bf_c (sh := sh) (b := 13) (j := nxd σ.1 % bN σ.2.1) (d := nxd (nxd σ.1) % 4) (by omega) hw hc (Nat.mod_lt _ hn0) (Nat.mod_lt _ (by omega))
      have F1 := w_X0_befall e1
      have c1' : cvB sh g1 13 (yB σ) := c1
      refine gb_T.bs e1 ?_
      obtain ⟨g2, e2, c2⟩ := mA (sh := sh) (b := 13) (by omega) w1 c1'
      have F2 := w_X4_moveAll e2
      have c2' : cvB sh g2 13 (yP σ) := c2
      refine gb_T.bs e2 ?_
      obtain ⟨q2, e3, hL⟩ := lif_c w2 c2'
      refine gb_T.bs e3 ?_
      obtain ⟨g4, e4, v4⟩ := pn_c (sh := sh) (b := 13) (by omega) w2 c2' hL
      have F4 := w_X1_load e4
      refine gb_T.bs e4 ?_
      rw [v4, gb_bd_s]
      simp only []
      have mx2 : f_J9_max_7cf53 sh g4 σ.2.2 (PN (yP σ)) = some (g4, (yS σ).2.2) := by
        unfold f_J9_max_7cf53 yS
        simp only []
        split <;> rfl
      rw [mx2, gb_bd_s, o_succ, yR, if_neg q]
      have c4 : cvB sh g4 13 (yP σ) := cvB_fr c2' fun c k q => F4 c k (by omega)
      exact ih (k + 1) f g4 (yS σ) (by omega) (by omega) w2 hn0 c4 b2 (fun k => by rw [(F4 76 k (by omega)).1, (F2 76 k (by omega)).1, (F1 76 k (by omega)).1]; exact hR k) (fun k => by rw [(F4 18 k (by omega)).2.2, (F2 18 k (by omega)).2.2, (F1 18 k (by omega)).2.2]; exact hL0 k)
/-! the reference -/
theorem sBf_eq {β : ms_B} {j d : Nat} {z0 v : Int32} (hj : j < 8) (hd : d < 4) (hz : z0 = if d = 0 then 1 else if d = 1 then 0 else bT β j 5) (hv : v = if d = 2 then ms_near (bT β j 1 + 1) 1 12 else if d = 3 then ms_near (bT β j 1 + (-1)) 1 12 else bT β j 1) : sSet (bCur β (sSet β (11 + j) z0)) (3 + j) v = sBf β j d := by
  funext i
  have hd' : d = 0 ∨ d = 1 ∨ d = 2 ∨ d = 3 := by omega
  unfold sBf
  by_cases e1 : i = 3 + j
  · subst e1
    rw [sSet_e]
    rcases hd' with rfl | rfl | rfl | rfl
    · rw [if_pos rfl, sSet_n (by omega), cur_now hj, hv, if_neg (by omega), if_neg (by omega)]
    · rw [if_neg (by omega), if_pos rfl, sSet_n (by omega), cur_now hj, hv, if_neg (by omega), if_neg (by omega)]
    · rw [if_neg (by omega), if_neg (by omega), if_pos rfl, sSet_e, hv, if_pos rfl]
    · rw [if_neg (by omega), if_neg (by omega), if_neg (by omega), sSet_e, hv, if_neg (by omega), if_pos rfl]
  · rw [sSet_n e1, cur_cur]
    by_cases e2 : i = 11 + j
    · subst e2
      rw [sSet_e]
      rcases hd' with rfl | rfl | rfl | rfl
      · rw [if_pos rfl, sSet_e, hz, if_pos rfl]
      · rw [if_neg (by omega), if_pos rfl, sSet_e, hz, if_neg (by omega), if_pos rfl]
      · rw [if_neg (by omega), if_neg (by omega), if_pos rfl, sSet_n (by omega), cur_la hj, hz, if_neg (by omega), if_neg (by omega)]
      · rw [if_neg (by omega), if_neg (by omega), if_neg (by omega), sSet_n (by omega), cur_la hj, hz, if_neg (by omega), if_neg (by omega)]
    · rw [sSet_n e2]
      rcases hd' with rfl | rfl | rfl | rfl
      · rw [if_pos rfl, sSet_n e2]
      · rw [if_neg (by omega), if_pos rfl, sSet_n e2]
      · rw [if_neg (by omega), if_neg (by omega), if_pos rfl, sSet_n e1]
      · rw [if_neg (by omega), if_neg (by omega), if_neg (by omega), sSet_n e1]
theorem y_235 {sh : List gb_Sh} {β : ms_B} {R S : Nat → Int32} {y3 : Int32} (hw : wfB β) (hy : 0 ≤ y3.toInt) : ∀ (m k fuel : Nat) (g : gb_G), k + m = bN β → m < fuel → g.1 77 55 = Int32.ofNat (bN β) → mvB (g.1 79) β → (∀ i, i < k → g.1 104 i = bT β i 1 ∧ g.1 104 (8 + i) = bT β i 5) → (∀ k, g.1 78 k = R k) → (∀ k, g.1 82 k = S k) → gb_T (f_X11_years_235 sh fuel g y3 (Int32.ofNat k)) (fun o => o.2 = y3 ∧ mvB (o.1.1 79) (bCur β (fun i => S (432 + i))) ∧ o.1.1 77 55 = Int32.ofNat (bN β) ∧ (∀ i, i < bN β → o.1.1 104 i = bT β i 1 ∧ o.1.1 104 (8 + i) = bT β i 5) ∧ o.1.1 77 1 = 0 ∧ (∀ k, o.1.1 78 k = R k) ∧ ∀ k, o.1.1 82 k = S k) := by
  have hn := hw.1
  intro m
  induction m with
  | zero =>
    intro k fuel g h hf h55 hm h104 hR hS
    obtain ⟨f, rfl⟩ : ∃ f, fuel = f + 1 := ⟨fuel - 1, by omega⟩
    have e : k = bN β := by omega
    subst e
    rw [f_X11_years_235, if_pos (by rw [h55]; exact Int32.le_refl _)]
    obtain ⟨g1, e1, b1, F1⟩ := pb_m (sh := sh) (q := 16) (g := g) (by omega)
    refine gb_T.bs (show f_X11_putBack sh g 16 = some g1 from e1) ?_
    rw [te_p hy, gb_bd_s]
    refine ⟨_, rfl, rfl, ?_, ?_, fun i hi => ?_, pi_e, fun k => ?_, fun k => ?_⟩
    · refine mvB_cur (rho := g.1 79) hw hm (fun i hi => ?_) fun k hk hq => (pi_n (by omega)).trans (F1 79 k (by omega)).1
      exact (pi_n (by omega)).trans ((b1 i (by unfold ms_rl at hi; omega)).trans (hS _))
    · exact (pi_n (by omega)).trans ((F1 77 55 (by omega)).1.trans h55)
    · have z := h104 i hi
      exact ⟨(pi_n (by omega)).trans ((F1 104 _ (by omega)).1.trans z.1), (pi_n (by omega)).trans ((F1 104 _ (by omega)).1.trans z.2)⟩
    · exact (pi_n (by omega)).trans ((F1 78 _ (by omega)).1.trans (hR k))
    · exact (pi_n (by omega)).trans ((F1 82 _ (by omega)).1.trans (hS k))
  | succ m ih =>
    intro k fuel g h hf h55 hm h104 hR hS
    obtain ⟨f, rfl⟩ : ∃ f, fuel = f + 1 := ⟨fuel - 1, by omega⟩
    obtain ⟨a0, a1, a2, a3, a4, a5, a6⟩ := hm.2.1 k (by omega)
    rw [f_X11_years_235, if_neg (by rw [h55, o_le (by omega) (by omega)]; omega), show (8 : Int32) = Int32.ofNat 8 from rfl, show (16 : Int32) = Int32.ofNat 16 from rfl, o_add, o_add, gb_ck_s (o_in (by omega) (by omega)), gb_ck_s (o_in (by omega) (by omega)), gb_let_s, gb_ck_s (o_in (by omega) (by omega)), gb_ck_s (o_in (by omega) (by omega)), gb_let_s, o_cl (by omega), o_cl (by omega), o_cl (by omega), o_succ, a1, pi_n (show ¬ ((79 : Nat) = 104 ∧ 16 + k = k) by omega), a5]
    refine ih (k + 1) f _ (by omega) (by omega) ((pi_n (by omega)).trans ((pi_n (by omega)).trans h55)) (mvB_fr hm hw fun k _ => (pi_n (by omega)).trans (pi_n (by omega))) (fun i hi => ?_) (fun k => (pi_n (by omega)).trans ((pi_n (by omega)).trans (hR k))) (fun k => (pi_n (by omega)).trans ((pi_n (by omega)).trans (hS k)))
    by_cases e : i = k
    · subst e
      exact ⟨(pi_n (by omega)).trans pi_e, pi_e⟩
    · have z := h104 i (by omega)
      exact ⟨(pi_n (by omega)).trans ((pi_n (by omega)).trans z.1), (pi_n (by omega)).trans ((pi_n (by omega)).trans z.2)⟩
theorem y_222 {sh : List gb_Sh} {g : gb_G} {β : ms_B} {R S : Nat → Int32} {y3 : Int32} (hw : wfB β) (hy : 0 ≤ y3.toInt) (hm : mvB (g.1 79) β) (hR : ∀ k, g.1 78 k = R k) (hS : ∀ k, g.1 82 k = S k) : gb_T (f_X11_years_222 sh g y3) (fun o => o.2 = y3 ∧ mvB (o.1.1 79) (bCur β (fun i => S (432 + i))) ∧ o.1.1 77 55 = Int32.ofNat (bN β) ∧ (∀ i, i < bN β → o.1.1 104 i = bT β i 1 ∧ o.1.1 104 (8 + i) = bT β i 5) ∧ o.1.1 77 1 = 0 ∧ (∀ k, o.1.1 78 k = R k) ∧ ∀ k, o.1.1 82 k = S k) := by
  unfold f_X11_years_222
  rw [gb_let_s, hm.1]
  exact y_235 hw hy (bN β) 0 gb_N _ (by omega) (by have := hw.1; unfold gb_N; omega) pi_e (mvB_fr hm hw fun k _ => pi_n (by omega)) (fun i hi => by omega) (fun k => (pi_n (by omega)).trans (hR k)) (fun k => (pi_n (by omega)).trans (hS k))
theorem y_143 {sh : List gb_Sh} {g : gb_G} {β : ms_B} {j d k : Nat} {n z0 most : Int32} {R S : Nat → Int32} {X : Int64} {K : gb_G → Int32 → Int32 → Int32 → Option (gb_G × Int32)} {P : gb_G × Int32 → Prop} (hw : wfB β) (hm : mvB (g.1 79) β) (h20 : g.1 77 20 = 0) (hj : j < bN β) (hd : d < 4) (hz : z0 = if d = 0 then 1 else if d = 1 then 0 else bT β j 5) (ht : ¬ bTe β 0 = 999) (hR : ∀ k, g.1 78 k = R k) (hS : ∀ k, g.1 82 k = S k) (hX : g.2.1 77 53 = X)
    (hK : ∀ g', mvB (g'.1 79) (bCur (bCur β (sBf β j d)) (sPass (bCur β (sBf β j d)))) → g'.1 77 20 = 0 → (∀ k, g'.1 78 k = R k) → (∀ k, g'.1 82 k = S k) → g'.2.1 77 53 = X → gb_T (K g' n (if most < PN (bCur (bCur β (sBf β j d)) (sPass (bCur β (sBf β j d)))) then PN (bCur (bCur β (sBf β j d)) (sPass (bCur β (sBf β j d)))) else most) (Int32.ofNat (k + 1))) P) : gb_T (f_X11_years_143 sh K g n most (Int32.ofNat k) (Int32.ofNat j) (Int32.ofNat d) z0 (Int32.ofNat (16 + j))) P := by
  have hn := hw.1
  have hw1 : wfB (bCur β (sBf β j d)) := wfB_cur hw (wfC_bf hw hj)
  have ht1 : ¬ bTe (bCur β (sBf β j d)) 0 = 999 := by
    show ¬ sBf β j d 0 = 999
    rw [sBf_te (by omega)]; exact ht
  have hw2 := wfB_cur hw1 (wfC_pass hw1 ht1)
  unfold f_X11_years_143
  rw [gb_ck_s (o_in (by omega) (by omega)), gb_let_s, show (8 : Int32) = Int32.ofNat 8 from rfl, o_add, gb_ck_s (o_in (by omega) (by omega)), o_cl (by omega), o_cl (by omega)]
  have im01 : im 0 1 z0 := by
    rw [hz]
    split
    · rw [im]; decide
    split
    · rw [im]; decide
    · exact (hw.2.2.2.2.2.2.1 j hj).2.2.2.2.2.1
  have hwz : wfB (bCur β (sSet β (11 + j) z0)) := wfB_cur hw (wfC_set hw hj (Or.inr (Or.inl ⟨rfl, im01⟩)))
  have m1 := wr_curm (g := g) (v := z0) hw hm (p := 11 + j) (by unfold ms_rl; omega)
  rw [show 5 + (11 + j) = 16 + j by omega] at m1
  have e8 : (gb_pi g 79 (16 + j) z0).1 79 (8 + j) = bT β j 1 := (pi_n (by omega)).trans (hm.2.1 j hj).2.1
  have K184 : ∀ dz : Int32, (ms_near (bT β j 1 + dz) 1 12 = if d = 2 then ms_near (bT β j 1 + 1) 1 12 else if d = 3 then ms_near (bT β j 1 + (-1)) 1 12 else bT β j 1) → gb_T (f_X11_years_184 sh K (gb_pi g 79 (16 + j) z0) n most (Int32.ofNat k) dz (bT β j 1) (Int32.ofNat (8 + j))) P := by
    intro dz hdz
    unfold f_X11_years_184
    rw [wi_e (by decide), gb_bd_s]
    simp only []
    rw [gb_ck_s (o_in (by omega) (by omega)), gb_let_s, o_cl (by omega)]
    have m2 := wr_curm (g := gb_pi g 79 (16 + j) z0) (v := ms_near (bT β j 1 + dz) 1 12) hwz m1 (p := 3 + j) (by unfold ms_rl; show _ ∨ (3 ≤ 3 + j ∧ 3 + j < 3 + bN β) ∨ _; omega)
    rw [bCur_bCur, sBf_eq (by omega) hd hz hdz, show 5 + (3 + j) = 8 + j by omega] at m2
    obtain ⟨g3, e3, m3⟩ := pI (sh := sh) hw1 m2 ((pi_n (by omega)).trans ((pi_n (by omega)).trans h20))
    have F3 := w_X11_passIt e3
    refine gb_T.bs e3 ?_
    have h203 : g3.1 77 20 = 0 := (F3 77 20 (by omega)).1.trans ((pi_n (by omega)).trans ((pi_n (by omega)).trans h20))
    obtain ⟨o, e4, v4⟩ := pn_m (sh := sh) hw2 m3 h203
    have F4 := w_X11_pensionNow e4
    refine gb_T.bs e4 ?_
    unfold f_X11_years_215
    rw [v4, o_succ]
    have m4 : mvB (o.1.1 79) (bCur (bCur β (sBf β j d)) (sPass (bCur β (sBf β j d)))) := mvB_fr m3 hw2 fun k _ => (F4 79 k (by omega)).1
    have fin := hK o.1 m4 ((F4 77 20 (by omega)).1.trans h203) (fun k => (F4 78 k (by omega)).1.trans ((F3 78 k (by omega)).1.trans ((pi_n (by omega)).trans ((pi_n (by omega)).trans (hR k))))) (fun k => (F4 82 k (by omega)).1.trans ((F3 82 k (by omega)).1.trans ((pi_n (by omega)).trans ((pi_n (by omega)).trans (hS k))))) ((F4 77 53 (by omega)).2.1.trans ((F3 77 53 (by omega)).2.1.trans hX))
    by_cases q : PN (bCur (bCur β (sBf β j d)) (sPass (bCur β (sBf β j d)))) ≤ most
    · rw [if_pos q]
      rw [if_neg (by rw [Int32.lt_iff_toInt_lt]; rw [Int32.le_iff_toInt_le] at q; omega)] at fin
      exact fin
    · rw [if_neg q]
      rw [if_pos (by rw [Int32.lt_iff_toInt_lt]; rw [Int32.le_iff_toInt_le] at q; omega)] at fin
      exact fin
  rw [e8]
  have hnow := (hw.2.2.2.2.2.2.1 j hj).2.1
  have hd' : d = 0 ∨ d = 1 ∨ d = 2 ∨ d = 3 := by omega
  rcases hd' with rfl | rfl | rfl | rfl
  · rw [if_neg (by decide), if_neg (by decide)]
    refine K184 0 ?_
    rw [if_neg (by omega), if_neg (by omega), Int32.add_zero, near_id hnow rfl rfl]
  · rw [if_neg (by decide), if_neg (by decide)]
    refine K184 0 ?_
    rw [if_neg (by omega), if_neg (by omega), Int32.add_zero, near_id hnow rfl rfl]
  · rw [if_pos (by decide)]
    exact K184 1 (by rw [if_pos rfl])
  · rw [if_neg (by decide), if_pos (by decide)]
    exact K184 (-1) (by rw [if_neg (by omega), if_pos rfl])
theorem y_m {sh : List gb_Sh} {n : Nat} {R S : Nat → Int32} (hn60 : n ≤ 60) : ∀ (m k fuel : Nat) (g : gb_G) (σ : Nat × ms_B × Int32), k + m = n → m < fuel → wfB σ.2.1 → 0 < bN σ.2.1 → mvB (g.1 79) σ.2.1 → g.1 77 20 = 0 → σ.1 < 1000003 → 0 ≤ σ.2.2.toInt → g.2.1 77 53 = Int64.ofNat σ.1 → (∀ k, g.1 78 k = R k) → (∀ k, g.1 82 k = S k) → gb_T (f_X11_years_68 sh fuel g (Int32.ofNat n) σ.2.2 (Int32.ofNat k)) (fun o => o.2 = (yR m σ).2.2 ∧ mvB (o.1.1 79) (bCur (yR m σ).2.1 (fun i => S (432 + i))) ∧ o.1.1 77 55 = Int32.ofNat (bN (yR m σ).2.1) ∧ (∀ i, i < bN (yR m σ).2.1 → o.1.1 104 i = bT (yR m σ).2.1 i 1 ∧ o.1.1 104 (8 + i) = bT (yR m σ).2.1 i 5) ∧ o.1.1 77 1 = 0 ∧ (∀ k, o.1.1 78 k = R k) ∧ ∀ k, o.1.1 82 k = S k) := by
  intro m
  induction m with
  | zero =>
    intro k fuel g σ h hf hw hn0 hm h20 hs hy hX hR hS
    obtain ⟨f, rfl⟩ : ∃ f, fuel = f + 1 := ⟨fuel - 1, by omega⟩
    have e : k = n := by omega
    subst e
    rw [f_X11_years_68, if_pos (Int32.le_refl _)]
    exact y_222 hw hy hm hR hS
  | succ m ih =>
    intro k fuel g σ h hf hw hn0 hm h20 hs hy hX hR hS
    obtain ⟨f, rfl⟩ : ∃ f, fuel = f + 1 := ⟨fuel - 1, by omega⟩
    have hn8 := hw.1
    have ht : g.1 79 5 = bTe σ.2.1 0 := hm.2.2.2.2.2.2.1 0 (by omega)
    rw [f_X11_years_68, if_neg (by rw [o_le (by omega) (by omega)]; omega), ht]
    by_cases q : bTe σ.2.1 0 = 999
    · rw [if_pos ((y999 hw.2.2.2.2.2.2.2.2.2.2.1).2 q), yR_e q]
      exact y_222 hw hy hm hR hS
    · obtain ⟨w1, w2⟩ := yS_w hw hn0 q
      have b1 := nxd_b σ.1
      have b2 := nxd_b (nxd σ.1)
      have hj := Nat.mod_lt (nxd σ.1) hn0
      have hd := Nat.mod_lt (nxd (nxd σ.1)) (show 0 < 4 by omega)
      rw [if_neg (fun z => q ((y999 hw.2.2.2.2.2.2.2.2.2.2.1).1 z)), hm.1, dr_m hs hn0 hn8 hX, gb_bd_s]
      simp only []
      rw [show f_X11_draw sh (gb_pj g 77 53 (Int64.ofNat (nxd σ.1))) 4 = _ from dr_m (n := 4) b1 (by omega) (by omega) pj_e, gb_bd_s]
      simp only []
      rw [show (16 : Int32) = Int32.ofNat 16 from rfl, o_add]
      obtain ⟨g1, hg1⟩ : ∃ q, q = gb_pj (gb_pj g 77 53 (Int64.ofNat (nxd σ.1))) 77 53 (Int64.ofNat (nxd (nxd σ.1))) := ⟨_, rfl⟩
      rw [← hg1]
      have e1 : g1.1 = g.1 := by rw [hg1]; rfl
      have hm1 : mvB (g1.1 79) σ.2.1 := by rw [e1]; exact hm
      have hX1 : g1.2.1 77 53 = Int64.ofNat (nxd (nxd σ.1)) := by rw [hg1, pj_e]
      have K := fun z0 (hz : z0 = if nxd (nxd σ.1) % 4 = 0 then 1 else if nxd (nxd σ.1) % 4 = 1 then 0 else bT σ.2.1 (nxd σ.1 % bN σ.2.1) 5) => y_143 (sh := sh) (g := g1) (β := σ.2.1) (j := nxd σ.1 % bN σ.2.1) (d := nxd (nxd σ.1) % 4) (k := k) (n := Int32.ofNat n) (z0 := z0) (most := σ.2.2) (R := R) (S := S) (X := Int64.ofNat (nxd (nxd σ.1))) (K := fun w w0 w1 w2 => f_X11_years_68 sh f w w0 w1 w2) (P := fun o => o.2 = (yR (m + 1) σ).2.2 ∧ mvB (o.1.1 79) (bCur (yR (m + 1) σ).2.1 (fun i => S (432 + i))) ∧ o.1.1 77 55 = Int32.ofNat (bN (yR (m + 1) σ).2.1) ∧ (∀ i, i < bN (yR (m + 1) σ).2.1 → o.1.1 104 i = bT (yR (m + 1) σ).2.1 i 1 ∧ o.1.1 104 (8 + i) = bT (yR (m + 1) σ).2.1 i 5) ∧ o.1.1 77 1 = 0 ∧ (∀ k, o.1.1 78 k = R k) ∧ ∀ k, o.1.1 82 k = S k) hw hm1 (by rw [e1]; exact h20) hj hd hz q (by rw [e1]; exact hR) (by rw [e1]; exact hS) hX1 (fun g' m' h20' hR' hS' hX' => by
        rw [yR, if_neg q]
        refine ih (k + 1) f g' (yS σ) (by omega) (by omega) w2 hn0 m' h20' b2 ?_ hX' hR' hS'
        show 0 ≤ (if σ.2.2 < PN (yP σ) then PN (yP σ) else σ.2.2).toInt
        split
        · exact PN_nn w2
        · exact hy)
      by_cases d0 : nxd (nxd σ.1) % 4 = 0
      · rw [if_pos (by rw [d0]; rfl)]
        exact K 1 (by rw [if_pos d0])
      · rw [if_neg (show ¬ Int32.ofNat (nxd (nxd σ.1) % 4) = 0 from fun z => d0 (o_inj (j := 0) (by omega) (by omega) z))]
        by_cases d1 : nxd (nxd σ.1) % 4 = 1
        · rw [if_pos (by rw [d1]; rfl)]
          exact K 0 (by rw [if_neg d0, if_pos d1])
        · rw [if_neg (show ¬ Int32.ofNat (nxd (nxd σ.1) % 4) = 1 from fun z => d1 (o_inj (j := 1) (by omega) (by omega) z)), gb_ck_s (o_in (by omega) (by omega)), o_cl (by omega)]
          exact K _ (by rw [if_neg d0, if_neg d1]; exact (hm1.2.1 _ hj).2.2.2.2.2.1)
theorem yR_k {β : ms_B} : ∀ m σ, yK β σ.2.1 → yK β (yR m σ).2.1 := by
  intro m
  induction m with
  | zero => intro σ h; exact h
  | succ m ih =>
    intro σ h
    rw [yR]
    split
    · exact h
    · exact ih _ (yP_k h)
theorem bCur_id {sh : List gb_Sh} {g : gb_G} {b : Nat} {β : ms_B} (hw : wfB β) (hc : cvB sh g b β) : cvB sh g b (bCur β (cur β)) := by
  have hn := hw.1
  refine cvB_cur hw hc (fun a ha => ⟨?_, ?_, ?_⟩) (fun _ _ _ _ _ _ _ => rfl) (fun j hj => ?_) (fun c k _ => ⟨rfl, rfl, rfl⟩)
  · rw [cur_now (by omega)]; exact hc.2.1 a 1 ha (by omega)
  · rw [cur_la (by omega)]; exact hc.2.1 a 5 ha (by omega)
  · rw [cur_we]; exact hc.2.1 a 2 ha (by omega)
  · rw [cur_te hj]; exact hc.2.2.2.2.2.2.1 j hj
theorem mvB_curc {rho : Nat → Int32} {β : ms_B} {s s' : Nat → Int32} (hm : mvB rho (bCur β s)) (e : ∀ i, ms_rl (bN β) i → s' i = s i) : mvB rho (bCur β s') := by
  obtain ⟨c0, c1, c2, c3, c4, c5, c6, c7, c8, c9⟩ := hm
  refine ⟨c0, fun i hi => ?_, c2, c3, c4, c5, fun j hj => (c6 j hj).trans (e j (by unfold ms_rl; omega)).symm, c7, c8, c9⟩
  have hi' : i < bN β := hi
  obtain ⟨a0, a1, a2, a3, a4, a5, a6⟩ := c1 i hi
  exact ⟨a0, a1.trans (e (3 + i) (by unfold ms_rl; omega)).symm, a2.trans (e (19 + i) (by unfold ms_rl; omega)).symm, a3, a4, a5.trans (e (11 + i) (by unfold ms_rl; omega)).symm, a6⟩
theorem p_years : ps_years gb_I := by
  intro sh g x1 x2 hI
  have hI0 := hI
  obtain ⟨hS, ⟨h1, h2⟩, h3, h4, h5, h6, h7, h8, β, ⟨hw, hc, hm⟩, h10⟩ := hI0
  have hn := hw.1
  by_cases q1 : im 0 1000000 x1
  · by_cases q2 : im 1 60 x2
    · by_cases hz : bN β = 0
      · refine rf_b (fun g => f_X11_years sh g x1 x2) (-3) 3 (by omega) rfl (by decide) hI ?_ fun g1 e1 _ _ => ?_
        · unfold f_X10_years
          rw [within_t q1 rfl rfl, bt, within_t q2 rfl rfl, bt, if_pos (by rw [hc.1, hz]; rfl)]
        · show f_X11_years sh g1 x1 x2 = _
          unfold f_X11_years
          rw [gb_let_s, in_t q1 rfl rfl, bt, in_t q2 rfl rfl, bt, if_pos (by rw [r79, e1, hm.1, hz]; rfl)]
      · obtain ⟨s, hs, rfl⟩ := o_of (n := 1000001) q1
        obtain ⟨n, hn60, rfl⟩ := o_of (n := 61) (im_mo q2 (by omega) (by omega))
        obtain ⟨a, e1, hc1, hL⟩ := cpB (sh := sh) (b := 13) (b1 := 1) hw (by omega) (by omega) hc (fun k p hk hq => h3 6 k p (by omega) hk hq)
        have F0 := w_X0_copyFrom e1
        obtain ⟨o1, e2, v1, c1, s1, r76, r18⟩ := y_c (sh := sh) (n := n) (R := g.1 76) (L := a.2.2 18) (by omega) n 0 gb_N a (s, β, 0) (by omega) (by unfold gb_N; omega) hw (by show 0 < bN β; omega) hc1 (by show s < _; omega) (fun k => (F0 76 k (by omega)).1) (fun k => rfl)
        have r1 : f_X10_years sh g (Int32.ofNat s) (Int32.ofNat n) = some o1 := by
          unfold f_X10_years
          rw [within_t q1 rfl rfl, bt, within_t q2 rfl rfl, bt, if_neg (show ¬ g.1 1 0 = 0 from fun z => hz (by rw [hc.1] at z; exact o_inj (j := 0) (by omega) (by omega) z)), e1, gb_bd_s]
          exact e2
        have F1 := w_X10_years r1
        have F63 := w_X10_years_63 _ e2
        obtain ⟨g2, e3, b2, F2⟩ := ka_m (sh := sh) (q := 16) (g := gb_pi o1.1 77 0 0) (by omega)
        obtain ⟨g3, hg3⟩ : ∃ q, q = gb_pj g2 77 53 (Int64.ofNat s) := ⟨_, rfl⟩
        have f3 : ∀ c k, ¬ ((c = 82 ∧ 432 ≤ k) ∨ (c = 77 ∧ k = 0)) → g3.1 c k = o1.1.1 c k := fun c k q => by
          rw [hg3]
          exact (F2 c k (by omega)).1.trans (pi_n (by omega))
        have m3 : mvB (g3.1 79) β := mvB_fr hm hw fun k _ => (f3 79 k (by omega)).trans (F1 79 k (by omega)).1
        obtain ⟨o2, e4, v2, m4, k55, k104, s2, r78, r82⟩ := y_m (sh := sh) (n := n) (R := g.1 78) (S := g3.1 82) (by omega) n 0 gb_N g3 (s, β, 0) (by omega) (by unfold gb_N; omega) hw (by show 0 < bN β; omega) m3 (by rw [f3 77 20 (by omega), (F1 77 20 (by omega)).1]; exact h2) (by show s < _; omega) (show 0 ≤ (0 : Int32).toInt by decide) (by rw [hg3, pj_e]) (fun k => (f3 78 k (by omega)).trans (F1 78 k (by omega)).1) (fun k => rfl)
        have r2 : f_X11_years sh o1.1 (Int32.ofNat s) (Int32.ofNat n) = some o2 := by
          unfold f_X11_years
          rw [gb_let_s, in_t q1 rfl rfl, bt, in_t q2 rfl rfl, bt, if_neg (show ¬ (gb_pi o1.1 77 0 0).1 79 0 = 0 from fun z => hz (by rw [r79, (F1 79 0 (by omega)).1, hm.1] at z; exact o_inj (j := 0) (by omega) (by omega) z)), show f_X11_keepAll sh (gb_pi o1.1 77 0 0) 16 = some g2 from e3, gb_bd_s, n64 (by omega), gb_let_s, ← hg3]
          exact e4
        have F4 := w_X11_years r2
        have F := fr2 F1 F4
        refine ⟨o1, o2, r1, r2, v1.trans v2.symm, ?_⟩
        have ek : yK β (yR n (s, β, 0)).2.1 := yR_k n (s, β, 0) (fun _ => rfl)
        have eN : bN (yR n (s, β, 0)).2.1 = bN β := by
          have z := ek (cur β)
          have z2 := congrArg Prod.fst z
          exact z2
        rw [ek] at m4
        rw [eN] at k55 k104
        have m5 : mvB (o2.1.1 79) (bCur β (cur β)) := mvB_curc m4 fun i hi => by
          have z := b2 i (by unfold ms_rl at hi; omega)
          show cur β i = g3.1 82 (432 + i)
          rw [hg3]
          show cur β i = g2.1 82 (27 * 16 + i)
          rw [z, pi_n (by omega), (F1 79 _ (by omega)).1]
          exact (mv_cur hw hm hi).symm
        have hw' : wfB (bCur β (cur β)) := wfB_cur hw (wfC_cur hw)
        obtain ⟨H, hh, hhm, hwH⟩ := U_of hw hm h10
        have hM : iM o2.1 := by
          refine ⟨(F 0 15 (by omega) (by omega)).1.trans (h4.1.trans (F 77 18 (by omega) (by omega)).1.symm), (F 0 16 (by omega) (by omega)).1.trans (h4.2.1.trans (F 77 11 (by omega) (by omega)).1.symm), (F 0 17 (by omega) (by omega)).1.trans (h4.2.2.1.trans (F 77 51 (by omega) (by omega)).1.symm), ?_⟩
          rw [(F4 0 18 (by omega)).1, s1, s2]
        have hFF : iF sh o2.1 := by
          intro b k p hb hk hq
          by_cases eb : b = 18
          · have z : o2.1.2.2 b k = g.2.2 6 k := by
              rw [eb, (F4 _ k (by omega)).2.2, r18 k]
              exact hL k hk
            rw [z] at hq
            exact h3 6 k p (by omega) hk hq
          · exact h3 b k p hb hk (by rw [← (F b k (by omega) (by omega)).2.2]; exact hq)
        have hR : iR o2.1 := fun k hk => by rw [(F4 76 k (by omega)).1, r76 k, r78 k]; exact h5 k hk
        have hD : iD o2.1 := by
          refine ⟨bN β, hn, ?_, Or.inl k55, fun i hi => ?_⟩
          · rw [(F4 13 0 (by omega)).1, c1.1, eN]
          · rw [(F4 14 _ (by omega)).1, (F4 14 _ (by omega)).1, (k104 i hi).1, (k104 i hi).2]
            exact ⟨c1.2.1 i 1 (by rw [eN]; exact hi) (by omega), c1.2.1 i 5 (by rw [eN]; exact hi) (by omega)⟩
        have hcv : cvB sh o2.1 1 (bCur β (cur β)) := bCur_id hw (cvB_fr hc fun c k q => F c k (by omega) (by omega))
        have hU : iU o2.1 (bN (bCur β (cur β))) := by
          refine of_U (H := H) hw' m5 (cvH_fr hh fun c k q => F c k (by omega) (by omega)) ⟨(F 77 8 (by omega) (by omega)).1.trans hhm.1, fun k hk => ?_⟩ (by rw [cur_curf]; exact hwH)
          have hN := hwH.1
          obtain ⟨z1, z2⟩ := hhm.2 k hk
          refine ⟨(F 83 k (by omega) (by omega)).1.trans z1, fun i hi q => ?_⟩
          rw [r82 _, f3 82 _ (by omega), (F1 82 _ (by omega)).1]
          exact z2 i hi q
        exact ⟨hS, ⟨mvC_fr h1 fun c k q => F c k (by omega) (by omega), (F 77 20 (by omega) (by omega)).1.trans h2⟩, hFF, hM, hR, iT_fr h6 fun c k q => F c k (by omega) (by omega), hD, iI_fr h8 fun c k q => F c k (by omega) (by omega), bCur β (cur β), ⟨hw', hcv, m5⟩, hU⟩
    · refine rf_b (fun g => f_X11_years sh g x1 x2) (-1) 1 (by omega) rfl (by decide) hI ?_ fun g1 e1 _ _ => ?_
      · unfold f_X10_years
        rw [within_t q1 rfl rfl, bt, within_f q2 rfl rfl, bf]; rfl
      · show f_X11_years sh g1 x1 x2 = _
        unfold f_X11_years
        rw [gb_let_s, in_t q1 rfl rfl, bt, in_f q2 rfl rfl, bf]; rfl
  · refine rf_b (fun g => f_X11_years sh g x1 x2) (-1) 1 (by omega) rfl (by decide) hI ?_ fun g1 e1 _ _ => ?_
    · unfold f_X10_years
      rw [within_f q1 rfl rfl, bf]; rfl
    · show f_X11_years sh g1 x1 x2 = _
      unfold f_X11_years
      rw [gb_let_s, in_f q1 rfl rfl, bf]; rfl
