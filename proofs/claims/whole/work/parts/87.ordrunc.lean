/-! ===== ORDERS: the class runs one ===== -/
noncomputable def ow (σ : OS) (j : Nat) : Int32 := if j = 0 then bTe σ.1 0 else if j = 1 then Int32.ofNat σ.2.2.1 else if j = 2 then σ.2.2.2 else if j = 3 then PN σ.1 else if j = 4 then ms_sum (fun i => bT σ.1 i 5) (bN σ.1) else if j < 13 then (if j - 5 < bN σ.1 then bT σ.1 (j - 5) 1 else -1) else if j - 13 < bN σ.1 then bT σ.1 (j - 13) 2 else -1
def evO (d : Option Den) (w : Nat → Int32) : Option Int32 := match d with
  | none => some 1
  | some D => D w
def nxO (k dn : Nat) (lt : Int32) : Option (ms_B × ms_H × Int32) → Option OS
  | none => none
  | some r => some (r.1, r.2.1, dn + 1, if k = 2 then r.2.2 else lt)
noncomputable def stO (q : Cl) (σ : OS) : Option OS := if evO q.2.2.2.2 (ow σ) = some 1 then (match evO q.2.1 (ow σ) with
  | none => none
  | some x => match evO q.2.2.1 (ow σ) with
    | none => none
    | some y => nxO q.1 σ.2.2.1 σ.2.2.2 (actO q.1 x y σ.1 σ.2.1)) else some σ
theorem ow_now {σ : OS} {j : Nat} (h : j < 8) : ow σ (5 + j) = if j < bN σ.1 then bT σ.1 j 1 else -1 := by
  unfold ow
  rw [if_neg (by omega), if_neg (by omega), if_neg (by omega), if_neg (by omega), if_neg (by omega), if_pos (by omega), show 5 + j - 5 = j by omega]
theorem ow_we {σ : OS} {j : Nat} : ow σ (13 + j) = if j < bN σ.1 then bT σ.1 j 2 else -1 := by
  unfold ow
  rw [if_neg (by omega), if_neg (by omega), if_neg (by omega), if_neg (by omega), if_neg (by omega), if_neg (by omega), show 13 + j - 13 = j by omega]
theorem PN_im {β : ms_B} (hw : wfB β) : im 0 1000000 (PN β) := by
  have hF := wfF_of (L := ms_lw β (bF β)) hw
  have hn := hw.1
  unfold PN
  rw [im]
  split
  · decide
  · have b1 : nsum (fun i => fC β (ms_lw β (bF β)) i * fP β i) (bN β) ≤ bN β * 1188 := nsum_b _ fun i hi => Nat.mul_le_mul (hF.2 i hi).1 (hF.2 i hi).2.2.2.2
    have b3 : TH (bN β) (fC β (ms_lw β (bF β))) (fB β) (fP β) 100 ≤ 100 * (bN β * 1188) := by
      unfold TH
      split
      · omega
      · exact Nat.le_trans (Nat.div_le_self _ _) (Nat.mul_le_mul_left _ b1)
    rw [o_int (by omega)]
    omega
theorem im_9 {lo hi : Int} {x : Int32} (h : im lo hi x) (h1 : -1000000000 ≤ lo) (h2 : hi ≤ 1000000000) : im9 x := by
  rw [im] at h
  rw [im9, im]; omega
theorem ow_ok {σ : OS} (h : wfO σ) (hd : σ.2.2.1 ≤ 1000) : okn 21 (ow σ) := by
  obtain ⟨hw, hH, hl⟩ := h
  have hn := hw.1
  have m1 : im9 (-1 : Int32) := by rw [im9, im]; decide
  intro j hj
  by_cases h0 : j = 0
  · subst h0; exact im_9 hw.2.2.2.2.2.2.2.2.2.2.1 (by omega) (by omega)
  by_cases h1 : j = 1
  · subst h1
    show im9 (Int32.ofNat σ.2.2.1)
    rw [im9, im, o_int (by omega)]; omega
  by_cases h2 : j = 2
  · subst h2; exact im_9 hl (by omega) (by omega)
  by_cases h3 : j = 3
  · subst h3; exact im_9 (PN_im hw) (by omega) (by omega)
  by_cases h4 : j = 4
  · subst h4
    refine im_9 (ms_sum_01 (L := fun i => bT σ.1 i 5) (show bN σ.1 ≤ 1000 by omega) fun i hi => (hw.2.2.2.2.2.2.1 i hi).2.2.2.2.2.1) (by omega) (by omega)
  by_cases h5 : j < 13
  · obtain ⟨i, rfl⟩ : ∃ i, j = 5 + i := ⟨j - 5, by omega⟩
    rw [ow_now (by omega)]
    split
    · next q => exact im_9 (hw.2.2.2.2.2.2.1 i q).2.1 (by omega) (by omega)
    · exact m1
  · obtain ⟨i, rfl⟩ : ∃ i, j = 13 + i := ⟨j - 13, by omega⟩
    rw [ow_we]
    split
    · next q => exact im_9 (hw.2.2.2.2.2.2.1 i q).2.2.1 (by omega) (by omega)
    · exact m1
/-- what the class holds while ORDERS are run -/
def CSo (sh : List gb_Sh) (g : gb_G) (σ : OS) : Prop := cvB sh g 1 σ.1 ∧ cvH g 33 σ.2.1 (bN σ.1) ∧ g.1 75 1 = Int32.ofNat σ.2.2.1 ∧ g.1 75 2 = σ.2.2.2 ∧ im9 (g.1 75 3)
def PGc (g : gb_G) (cs : List Cl) (c : Nat) (φ : Bool) : Prop := c ≤ 400 ∧ cs.length ≤ 12 ∧ g.1 46 0 = Int32.ofNat c ∧ g.1 46 3 = Int32.ofNat cs.length ∧ g.1 46 7 = (if φ = true then 1 else 0) ∧ (∀ i q, cs[i]? = some q → gC g 21 i c q) ∧ ∀ q ∈ cs, wfCl true φ q
theorem PGc_fr {g g' : gb_G} {cs : List Cl} {c : Nat} {φ : Bool} (h : PGc g cs c φ) (e : ∀ a k, 46 ≤ a ∧ a ≤ 51 → g'.1 a k = g.1 a k) : PGc g' cs c φ := by
  obtain ⟨h1, h2, h3, h4, h5, h6, h7⟩ := h
  exact ⟨h1, h2, (e _ _ (by omega)).trans h3, (e _ _ (by omega)).trans h4, (e _ _ (by omega)).trans h5, fun i q hq => gG (h6 i q hq) fun a k z => e a k (by omega), h7⟩
theorem fo30 {sh : List gb_Sh} {σ : OS} {φ : Bool} (hw : wfB σ.1) : ∀ (d j F : Nat) (g : gb_G), j + d = 8 → d < F → cvB sh g 1 σ.1 → (∀ i, i < j → g.1 75 (5 + i) = ow σ (5 + i) ∧ g.1 75 (13 + i) = ow σ (13 + i)) → g.1 46 7 = (if φ = true then 1 else 0) → gb_T (f_X10_fillOrderWords_30 sh F g (Int32.ofNat j)) (fun o => (∀ i, i < 8 → o.1 75 (5 + i) = ow σ (5 + i) ∧ o.1 75 (13 + i) = ow σ (13 + i)) ∧ (φ = true → o.1 75 3 = PN σ.1) ∧ (φ = false → o.1 75 3 = g.1 75 3) ∧ ∀ i, i < 5 → ¬ i = 3 → o.1 75 i = g.1 75 i) := by
  have hn := hw.1
  intro d
  induction d with
  | zero =>
    intro j F g hj hF hc hi h7
    obtain ⟨f, rfl⟩ : ∃ f, F = f + 1 := ⟨F - 1, by omega⟩
    rw [show j = 8 by omega] at hi ⊢
    rw [f_X10_fillOrderWords_30, if_pos (by decide), h7]
    cases φ with
    | false =>
      rw [if_pos (by decide)]
      exact ⟨g, rfl, hi, fun z => (nomatch z), fun _ => rfl, fun _ _ _ => rfl⟩
    | true =>
      rw [if_neg (by decide)]
      obtain ⟨q2, e1, hq⟩ := lif_c (sh := sh) hw hc
      rw [e1, gb_bd_s]
      obtain ⟨o, e2, e3⟩ := pn_c (sh := sh) (b := 1) (by omega) hw hc hq
      have F2 := w_X1_load e2
      rw [e2, gb_bd_s, e3, gb_bd_s, gb_let_s]
      exact ⟨_, rfl, fun i h8 => ⟨(pi_n (by omega)).trans ((F2 75 _ (by omega)).1.trans (hi i h8).1), (pi_n (by omega)).trans ((F2 75 _ (by omega)).1.trans (hi i h8).2)⟩, fun _ => pi_e, fun z => (nomatch z), fun i _ h3 => (pi_n (by omega)).trans (F2 75 i (by omega)).1⟩
  | succ d ih =>
    intro j F g hj hF hc hi h7
    obtain ⟨f, rfl⟩ : ∃ f, F = f + 1 := ⟨F - 1, by omega⟩
    have r1 : ∀ g' : gb_G, cvB sh g' 1 σ.1 → f_X0_read sh g' 1 (Int32.ofNat j) 1 = some (g', ow σ (5 + j)) := fun g' hc' => by
      rw [ow_now (by omega)]
      by_cases q : j < bN σ.1
      · rw [if_pos q, rd_t (y := 1) (j := 1) hw hc' rfl q rfl (by omega)]
      · rw [if_neg q, rd_f hw hc'.1 (by rw [im, o_int (by omega)]; omega)]
    have r2 : ∀ g' : gb_G, cvB sh g' 1 σ.1 → f_X0_read sh g' 1 (Int32.ofNat j) 2 = some (g', ow σ (13 + j)) := fun g' hc' => by
      rw [ow_we]
      by_cases q : j < bN σ.1
      · rw [if_pos q, rd_t (y := 2) (j := 2) hw hc' rfl q rfl (by omega)]
      · rw [if_neg q, rd_f hw hc'.1 (by rw [im, o_int (by omega)]; omega)]
    have hc1 : cvB sh (gb_pi g 75 (5 + j) (ow σ (5 + j))) 1 σ.1 := cvB_fr hc fun c k q => eqpi (by omega)
    have hc2 : cvB sh (gb_pi (gb_pi g 75 (5 + j) (ow σ (5 + j))) 75 (13 + j) (ow σ (13 + j))) 1 σ.1 := cvB_fr hc1 fun c k q => eqpi (by omega)
    rw [f_X10_fillOrderWords_30, if_neg (by rw [show (8 : Int32) = Int32.ofNat 8 from rfl, o_le (by omega) (by omega)]; omega), r1 g hc, gb_bd_s, show (5 : Int32) = Int32.ofNat 5 from rfl, show (13 : Int32) = Int32.ofNat 13 from rfl, o_add, o_add, gb_ck_s (o_in (by omega) (by omega)), o_cl (by omega), gb_let_s, r2 _ hc1, gb_bd_s, gb_ck_s (o_in (by omega) (by omega)), o_cl (by omega), gb_let_s, o_succ]
    obtain ⟨o, eo, a1, a2, a3, a4⟩ := ih (j + 1) f _ (by omega) (by omega) hc2 (fun i hij => by
      by_cases z : i = j
      · subst z
        exact ⟨(pi_n (by omega)).trans pi_e, pi_e⟩
      · exact ⟨(pi_n (by omega)).trans ((pi_n (by omega)).trans (hi i (by omega)).1), (pi_n (by omega)).trans ((pi_n (by omega)).trans (hi i (by omega)).2)⟩) ((pi_n (by omega)).trans ((pi_n (by omega)).trans h7))
    exact ⟨o, eo, a1, a2, fun z => (a3 z).trans ((pi_n (by omega)).trans (pi_n (by omega))), fun i h5 h3 => (a4 i h5 h3).trans ((pi_n (by omega)).trans (pi_n (by omega)))⟩
theorem fow_c {sh : List gb_Sh} {g : gb_G} {σ : OS} {φ : Bool} (hw : wfB σ.1) (h : CSo sh g σ) (h7 : g.1 46 7 = (if φ = true then 1 else 0)) : gb_T (f_X10_fillOrderWords sh g) (fun o => (∀ j, j < 21 → (j = 3 → φ = true) → o.1 75 j = ow σ j) ∧ im9 (o.1 75 3)) := by
  obtain ⟨hc, hh, h1, h2, h3⟩ := h
  unfold f_X10_fillOrderWords
  have e0 : g.1 (1 + 4) 0 = ow σ 0 := hc.2.2.2.2.2.2.1 0 (by omega)
  rw [gb_let_s, e0]
  have hc1 : cvB sh (gb_pi g 75 0 (ow σ 0)) 1 σ.1 := cvB_fr hc fun c k q => eqpi (by omega)
  rw [lc hw hc1, gb_bd_s, gb_let_s]
  have hc2 : cvB sh (gb_pi (gb_pi g 75 0 (ow σ 0)) 75 4 (ow σ 4)) 1 σ.1 := cvB_fr hc1 fun c k q => eqpi (by omega)
  obtain ⟨o, eo, a1, a2, a3, a4⟩ := fo30 (sh := sh) (σ := σ) (φ := φ) hw 8 0 gb_N _ rfl (by decide) hc2 (fun i hi => by omega) ((pi_n (by omega)).trans ((pi_n (by omega)).trans h7))
  refine ⟨o, eo, fun j hj q => ?_, ?_⟩
  · by_cases j0 : j = 0
    · subst j0; exact (a4 0 (by omega) (by omega)).trans ((pi_n (by omega)).trans pi_e)
    by_cases j1 : j = 1
    · subst j1; exact (a4 1 (by omega) (by omega)).trans ((pi_n (by omega)).trans ((pi_n (by omega)).trans h1))
    by_cases j2 : j = 2
    · subst j2; exact (a4 2 (by omega) (by omega)).trans ((pi_n (by omega)).trans ((pi_n (by omega)).trans h2))
    by_cases j3 : j = 3
    · subst j3; exact a2 (q rfl)
    by_cases j4 : j = 4
    · subst j4; exact (a4 4 (by omega) (by omega)).trans pi_e
    by_cases j5 : j < 13
    · obtain ⟨i, rfl⟩ : ∃ i, j = 5 + i := ⟨j - 5, by omega⟩
      exact (a1 i (by omega)).1
    · obtain ⟨i, rfl⟩ : ∃ i, j = 13 + i := ⟨j - 13, by omega⟩
      exact (a1 i (by omega)).2
  · cases φ with
    | true => rw [a2 rfl]; exact im_9 (PN_im hw) (by omega) (by omega)
    | false =>
      rw [a3 rfl, pi_n (by omega), pi_n (by omega)]
      exact h3
/-- a piece of an ORDER is run -/
theorem runP {sh : List gb_Sh} {g : gb_G} {i p c a e : Nat} {D : Option Den} (hL : LN sh) (hi : i < 12) (hp : p ≤ 2) (hc : c ≤ 400) (h0 : g.1 46 0 = Int32.ofNat c) (h1 : g.1 51 (3 * i + p) = Int32.ofNat a) (h2 : g.1 51 (3 * i + p + 1) = Int32.ofNat e) (he : e ≤ c) (hX : pC (g.1 47) (g.1 48) 21 a e D) (hw : okn 21 (g.1 75)) : ∃ g'', f_X5_run sh g 46 (Int32.ofNat i) (Int32.ofNat p) 75 21 = some (g'', ms_br (evO D (g.1 75))) := by
  rw [Nat.mul_comm 3 i] at h1 h2
  cases D with
  | none =>
    have e1 : a = e := hX
    subst e1
    exact ⟨g, run_0 (b := 46) (m := 12) hL.2.2.2.2 hi (by omega) hp h1 h2 h0 he hc⟩
  | some D =>
    obtain ⟨x1, k, x2, x3⟩ := hX
    exact run_t (b := 46) (m := 12) hL.2.2.2.2 hi (by omega) hp h1 h2 h0 x1 he hc (by rw [show (46 : Nat) + 1 = 47 from rfl, hL.1]; omega) (by rw [show (46 : Nat) + 2 = 48 from rfl, hL.2.1]; omega) (by rw [show (46 : Nat) + 1 = 47 from rfl, hL.1]; omega) (by rw [show (46 : Nat) + 2 = 48 from rfl, hL.2.1]; omega) (by omega) (by omega) (by omega) (by omega) hw x3
theorem ev_dep {d : Option Den} {φ : Bool} {w w' : Nat → Int32} (h : ∀ D, d = some D → Dep true φ D) (e : ∀ j, j < 21 → (j = 3 → φ = true) → w j = w' j) : evO d w = evO d w' := by
  cases d with
  | none => rfl
  | some D => exact h D rfl w w' fun j hj q => e j hj fun z => q rfl z
theorem ev_br {d : Option Den} {w : Nat → Int32} {x : Int32} (h : ∀ D, d = some D → VD 21 D) (hw : okn 21 w) (e : evO d w = some x) : ¬ x = -2147483648 := by
  cases d with
  | none => cases e; decide
  | some D => exact br_ne (h D rfl w hw x e)
def RC1 (sh : List gb_Sh) (R : Option (gb_G × Int32)) : Option OS → Prop
  | none => ∃ g', R = some (g', 0) ∧ im9 (g'.1 75 3)
  | some σ' => ∃ g', R = some (g', 1) ∧ CSo sh g' σ'
theorem ro_fin {sh : List gb_Sh} {g : gb_G} {R : Option (gb_G × Int32)} {A : Option (ms_B × ms_H × Int32)} {n i k dn : Nat} {lt : Int32} (hL : LN sh) (hi : i < 12) (hk : k ≤ 3) (hA : AC1 sh g n R A) (hF : ∀ o v, R = some (o, v) → ∀ j, o.1 49 j = g.1 49 j ∧ o.1 75 j = g.1 75 j) (h49 : g.1 49 i = Int32.ofNat k) (h1 : g.1 75 1 = Int32.ofNat dn) (h2 : g.1 75 2 = lt) (h3 : im9 (g.1 75 3)) (hA2 : ∀ r, A = some r → bN r.1 = n ∧ 0 ≤ r.2.2.toInt) : RC1 sh (gb_bd R (fun r => f_X10_runOnce_144 sh r.1 (Int32.ofNat i) r.2)) (nxO k dn lt A) := by
  cases A with
  | none =>
    obtain ⟨v, e, hv⟩ := hA
    rw [e, gb_bd_s]
    refine ⟨g, ?_, h3⟩
    unfold f_X10_runOnce_144
    rw [if_neg (by rw [Int32.le_iff_toInt_le, Int32.toInt_zero]; show ¬ 0 ≤ v.toInt; omega)]
  | some r =>
    obtain ⟨β', H', t⟩ := r
    obtain ⟨o, e, c1, c2⟩ := hA
    obtain ⟨hb, ht⟩ := hA2 _ rfl
    have Fo := hF o t e
    rw [e, gb_bd_s]
    unfold f_X10_runOnce_144 f_X10_runOnce_169
    rw [if_pos (by rw [Int32.le_iff_toInt_le, Int32.toInt_zero]; exact ht), show (46 : Nat) + 3 = 49 from rfl, hL.2.2.1, gb_ck_s (o_in hi (by omega)), o_cl (by omega)]
    simp only []
    rw [(Fo i).1, h49]
    have hb : bN β' = n := hb
    by_cases q : k = 2
    · subst q
      rw [if_pos (show Int32.ofNat 2 = (2 : Int32) from rfl), gb_let_s, gb_let_s, pi_n (by omega), (Fo 1).2, h1, o_succ]
      refine ⟨_, rfl, cvB_fr c1 fun c k q => eqc_tr (eqpi (by omega)) (eqpi (by omega)), ?_, pi_e, ?_, ?_⟩
      · show cvH _ 33 H' (bN β')
        rw [hb]
        exact cvH_fr c2 fun c k q => eqc_tr (eqpi (by omega)) (eqpi (by omega))
      · exact (pi_n (by omega)).trans pi_e
      · rw [pi_n (by omega), pi_n (by omega), (Fo 3).2]; exact h3
    · rw [if_neg (show ¬ Int32.ofNat k = (2 : Int32) from fun z => q (o_inj (j := 2) (by omega) (by omega) z)), gb_let_s, (Fo 1).2, h1, o_succ]
      refine ⟨_, rfl, cvB_fr c1 fun c k q => eqpi (by omega), ?_, pi_e, ?_, ?_⟩
      · show cvH _ 33 H' (bN β')
        rw [hb]
        exact cvH_fr c2 fun c k q => eqpi (by omega)
      · refine (pi_n (by omega)).trans ((Fo 2).2.trans ?_)
        rw [h2]
        show lt = if k = 2 then t else lt
        rw [if_neg q]
      · rw [pi_n (by omega), (Fo 3).2]; exact h3
theorem bN_cur {β : ms_B} {s : Nat → Int32} : bN (bCur β s) = bN β := rfl
/-- runOnce() -/
theorem ro_c {sh : List gb_Sh} {g : gb_G} {σ : OS} {cs : List Cl} {q : Cl} {i c : Nat} {φ : Bool} (hL : LN sh) (hσ : wfO σ) (hd : σ.2.2.1 ≤ 1000) (hP : PGc g cs c φ) (hq : cs[i]? = some q) (h : CSo sh g σ) : RC1 sh (f_X10_runOnce sh g (Int32.ofNat i)) (stO q σ) := by
  obtain ⟨P1, P2, P3, P4, P5, P6, P7⟩ := hP
  have hi : i < 12 := by have := nx hq; omega
  obtain ⟨y1, y2, a0, a1, a2, a3, y3, b0, b1, b2, b3, p1, p2, p3⟩ := P6 i q hq
  obtain ⟨w1, w2, w3, w4, w5, w6, w7⟩ := P7 q (List.mem_of_getElem? hq)
  have le1 := pC_le p1
  have le2 := pC_le p2
  have le3 := pC_le p3
  have hok := ow_ok hσ hd
  obtain ⟨r1, e1, z1, z2⟩ := fow_c (sh := sh) hσ.1 h P5
  have F1 := w_X10_fillOrderWords e1
  have hw : okn 21 (r1.1 75) := fun j hj => by
    by_cases z : j = 3 ∧ φ = false
    · rw [z.1]; exact z2
    · rw [z1 j hj (fun z3 => by cases φ with | true => rfl | false => exact absurd ⟨z3, rfl⟩ z)]; exact hok j hj
  have v3 : evO q.2.2.2.2 (r1.1 75) = evO q.2.2.2.2 (ow σ) := ev_dep (fun D hD => (w7 D hD).2) z1
  have v1 : evO q.2.1 (r1.1 75) = evO q.2.1 (ow σ) := ev_dep (fun D hD => (w5 D hD).2) z1
  have v2 : evO q.2.2.1 (r1.1 75) = evO q.2.2.1 (ow σ) := ev_dep (fun D hD => (w6 D hD).2) z1
  unfold f_X10_runOnce
  rw [e1, gb_bd_s]
  obtain ⟨g3, e3⟩ := runP (sh := sh) (g := r1) (p := 2) hL hi (by omega) P1 ((F1 _ _ (by omega)).1.trans P3) ((F1 _ _ (by omega)).1.trans b2) ((F1 _ _ (by omega)).1.trans b3) y3 (pC_eq p3 fun j _ _ => ⟨(F1 _ _ (by omega)).1, (F1 _ _ (by omega)).1⟩) hw
  have F3 := w_X5_run e3
  have G3 : ∀ a k, ¬ a = 53 → ¬ a = 55 → ¬ (57 ≤ a ∧ a ≤ 60) → ¬ a = 75 → eqc g g3 a k := fun a k u1 u2 u3 u4 => eqc_tr (F1 a k (by omega)) (F3 a k (by omega))
  have G3' : ∀ a k, ¬ a = 53 → g3.1 a k = r1.1 a k := fun a k u1 => (F3 a k (by omega)).1
  have e3 : f_X5_run sh r1 46 (Int32.ofNat i) 2 75 21 = some (g3, ms_br (evO q.2.2.2.2 (r1.1 75))) := e3
  rw [e3, gb_bd_s, v3]
  simp only []
  unfold stO
  by_cases ht : evO q.2.2.2.2 (ow σ) = some 1
  · rw [if_pos ht, ht, if_pos (show ms_br (some 1) = 1 from rfl)]
    have h75 : g3.1 75 = r1.1 75 := funext fun k => G3' 75 k (by omega)
    obtain ⟨g5, e5⟩ := runP (sh := sh) (g := g3) (p := 0) hL hi (by omega) P1 ((G3 _ _ (by omega) (by omega) (by omega) (by omega)).1.trans P3) ((G3 _ _ (by omega) (by omega) (by omega) (by omega)).1.trans b0) ((G3 _ _ (by omega) (by omega) (by omega) (by omega)).1.trans b1) (by omega) (pC_eq p1 fun j _ _ => ⟨(G3 _ _ (by omega) (by omega) (by omega) (by omega)).1, (G3 _ _ (by omega) (by omega) (by omega) (by omega)).1⟩) (by rw [h75]; exact hw)
    have F5 := w_X5_run e5
    have e5 : f_X5_run sh g3 46 (Int32.ofNat i) 0 75 21 = some (g5, ms_br (evO q.2.1 (g3.1 75))) := e5
    have G5 : ∀ a k, ¬ a = 53 → ¬ a = 55 → ¬ (57 ≤ a ∧ a ≤ 60) → ¬ a = 75 → eqc g g5 a k := fun a k u1 u2 u3 u4 => eqc_tr (G3 a k u1 u2 u3 u4) (F5 a k (by omega))
    have h75' : g5.1 75 = r1.1 75 := funext fun k => (F5 75 k (by omega)).1.trans (G3' 75 k (by omega))
    obtain ⟨g7, e7⟩ := runP (sh := sh) (g := g5) (p := 1) hL hi (by omega) P1 ((G5 _ _ (by omega) (by omega) (by omega) (by omega)).1.trans P3) ((G5 _ _ (by omega) (by omega) (by omega) (by omega)).1.trans b1) ((G5 _ _ (by omega) (by omega) (by omega) (by omega)).1.trans b2) (by omega) (pC_eq p2 fun j _ _ => ⟨(G5 _ _ (by omega) (by omega) (by omega) (by omega)).1, (G5 _ _ (by omega) (by omega) (by omega) (by omega)).1⟩) (by rw [h75']; exact hw)
    have F7 := w_X5_run e7
    have e7 : f_X5_run sh g5 46 (Int32.ofNat i) 1 75 21 = some (g7, ms_br (evO q.2.2.1 (g5.1 75))) := e7
    have G7 : ∀ a k, ¬ a = 53 → ¬ a = 55 → ¬ (57 ≤ a ∧ a ≤ 60) → ¬ a = 75 → eqc g g7 a k := fun a k u1 u2 u3 u4 => eqc_tr (G5 a k u1 u2 u3 u4) (F7 a k (by omega))
    have h757 : ∀ k, g7.1 75 k = r1.1 75 k := fun k => (F7 75 k (by omega)).1.trans (congrFun h75' k)
    rw [e5, gb_bd_s, e7, gb_bd_s, h75, h75', v1, v2]
    simp only []
    cases hx : evO q.2.1 (ow σ) with
    | none =>
      rw [if_pos (show ms_br none = -2147483648 from rfl)]
      exact ⟨g7, rfl, by rw [h757]; exact z2⟩
    | some x =>
      rw [if_neg (show ¬ ms_br (some x) = -2147483648 from ev_br (fun D hD => (w5 D hD).1) hok hx)]
      cases hy : evO q.2.2.1 (ow σ) with
      | none =>
        rw [if_pos (show ms_br none = -2147483648 from rfl)]
        exact ⟨g7, rfl, by rw [h757]; exact z2⟩
      | some y =>
        rw [if_neg (show ¬ ms_br (some y) = -2147483648 from ev_br (fun D hD => (w6 D hD).1) hok hy)]
        have k49 : g7.1 49 i = Int32.ofNat q.1 := (G7 49 i (by omega) (by omega) (by omega) (by omega)).1.trans y1
        rw [show (46 : Nat) + 3 = 49 from rfl, hL.2.2.1, gb_ck_s (o_in hi (by omega)), o_cl (by omega), k49]
        have hc7 : cvB sh g7 1 σ.1 := cvB_fr h.1 fun c k u => G7 c k (by omega) (by omega) (by omega) (by omega)
        have hh7 : cvH g7 33 σ.2.1 (bN σ.1) := cvH_fr h.2.1 fun c k u => G7 c k (by omega) (by omega) (by omega) (by omega)
        have d1 : g7.1 75 1 = Int32.ofNat σ.2.2.1 := (h757 1).trans (z1 1 (by omega) (by omega))
        have d2 : g7.1 75 2 = σ.2.2.2 := (h757 2).trans (z1 2 (by omega) (by omega))
        have d3 : im9 (g7.1 75 3) := by rw [h757]; exact z2
        have hA2 : ∀ r, actO q.1 x y σ.1 σ.2.1 = some r → bN r.1 = bN σ.1 ∧ 0 ≤ r.2.2.toInt := fun r hr => by
          obtain ⟨β', H', t⟩ := r
          obtain ⟨-, -, u1, -, s, u2⟩ := act_w w1 hσ.1 hσ.2.1 hr
          exact ⟨by rw [show (β', H', t).1 = β' from rfl, u2]; rfl, u1⟩
        have hN := hσ.2.1.1
        show RC1 sh _ (nxO q.1 σ.2.2.1 σ.2.2.2 (actO q.1 x y σ.1 σ.2.1))
        have h0123 : q.1 = 0 ∨ q.1 = 1 ∨ q.1 = 2 ∨ q.1 = 3 := by omega
        rcases h0123 with hk | hk | hk | hk
        · rw [hk] at k49 hA2 ⊢
          rw [if_pos (by decide)]
          exact ro_fin hL hi (by omega) (lak_c (k := 0) (by omega) hσ.1 hc7 hh7 hN) (fun o v e j => ⟨(w_X10_changeLacking e 49 j (by omega)).1, (w_X10_changeLacking e 75 j (by omega)).1⟩) k49 d1 d2 d3 hA2
        · rw [hk] at k49 hA2 ⊢
          rw [if_neg (by decide), if_pos (by decide)]
          exact ro_fin hL hi (by omega) (lak_c (k := 1) (by omega) hσ.1 hc7 hh7 hN) (fun o v e j => ⟨(w_X10_changeLacking e 49 j (by omega)).1, (w_X10_changeLacking e 75 j (by omega)).1⟩) k49 d1 d2 d3 hA2
        · rw [hk] at k49 hA2 ⊢
          rw [if_neg (by decide), if_neg (by decide), if_pos (by decide)]
          exact ro_fin hL hi (by omega) (we_c hσ.1 hc7 hh7 hN) (fun o v e j => ⟨(w_X10_changeWeight e 49 j (by omega)).1, (w_X10_changeWeight e 75 j (by omega)).1⟩) k49 d1 d2 d3 hA2
        · rw [hk] at k49 hA2 ⊢
          rw [if_neg (by decide), if_neg (by decide), if_neg (by decide)]
          exact ro_fin hL hi (by omega) (pa_c hσ.1 hc7 hh7 hN) (fun o v e j => ⟨(w_X10_passMonth e 49 j (by omega)).1, (w_X10_passMonth e 75 j (by omega)).1⟩) k49 d1 d2 d3 hA2
  · rw [if_neg ht, if_neg]
    · refine ⟨g3, rfl, cvB_fr h.1 fun c k u => G3 c k (by omega) (by omega) (by omega) (by omega), cvH_fr h.2.1 fun c k u => G3 c k (by omega) (by omega) (by omega) (by omega), (G3' 75 1 (by omega)).trans (z1 1 (by omega) (by omega)), (G3' 75 2 (by omega)).trans (z1 2 (by omega) (by omega)), ?_⟩
      rw [G3' 75 3 (by omega)]; exact z2
    · intro z
      cases hv : evO q.2.2.2.2 (ow σ) with
      | none => rw [hv] at z; exact absurd z (by decide)
      | some v => rw [hv] at z ht; exact ht (congrArg some z)
