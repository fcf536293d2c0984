/-! ===== orders(): the reference ===== -/
theorem mvB_cc {rho : Nat → Int32} {β : ms_B} (hw : wfB β) (h : mvB rho (bCur β (cur β))) : mvB rho β := by
  have hn := hw.1
  obtain ⟨h0, h1, h2, h3, h4, h5, h6, h7, h8, h9⟩ := h
  refine ⟨h0, fun i hi => ?_, h2, h3, h4, h5, fun j hj => ?_, h7, h8, h9⟩
  · obtain ⟨a0, a1, a2, a3, a4, a5, a6⟩ := h1 i hi
    refine ⟨a0, ?_, ?_, a3, a4, ?_, a6⟩
    · exact a1.trans (cur_now (show i < 8 by omega))
    · exact a2.trans cur_we
    · exact a5.trans (cur_la (show i < 8 by omega))
  · exact (h6 j hj).trans (cur_te hj)
theorem gb_m {sh : List gb_Sh} {g : gb_G} {y1 : Int32} : gb_T (f_X11_giveBack sh g y1) (fun o => (∀ k, k < 27 → o.1 79 (5 + k) = g.1 82 (459 + k)) ∧ (∀ k, k < 432 → o.1 82 k = g.1 84 k) ∧ (∀ k, k < 16 → o.1 83 k = g.1 85 k) ∧ o.1 77 8 = y1 ∧ gb_Fr (fun c k => (c = 77 ∧ k = 8) ∨ (c = 79 ∧ 5 ≤ k ∧ k < 32) ∨ (c = 82 ∧ k < 432) ∨ c = 83) g o) := by
  unfold f_X11_giveBack
  obtain ⟨r, e, p1, p2⟩ := pb_m (sh := sh) (q := 17) (g := g) (by omega)
  refine gb_T.bs (show f_X11_putBack sh g 17 = some r from e) ?_
  refine cpl0 (fun fuel g y => f_X11_giveBack_8 sh fuel g y1 y) 82 84 0 0 432 (by omega) (by unfold gb_N; omega) r (fun f g i hi => ?_) fun f g1 h1 F1 => ?_
  · show f_X11_giveBack_8 sh (f + 1) g y1 (Int32.ofNat i) = f_X11_giveBack_8 sh f _ y1 _
    rw [f_X11_giveBack_8, if_neg (by rw [show (432 : Int32) = Int32.ofNat 432 from rfl, o_le (by omega) (by omega)]; omega), gb_ck_s (o_in (by omega) (by omega)), gb_ck_s (o_in (by omega) (by omega)), gb_let_s, o_cl (by omega), o_succ, Nat.zero_add]
  · show gb_T (f_X11_giveBack_8 sh (f + 1) g1 y1 (Int32.ofNat 432)) _
    rw [f_X11_giveBack_8, if_pos (by decide)]
    refine cpl0 (fun fuel g y => f_X11_giveBack_35 sh fuel g y1 y) 83 85 0 0 16 (by omega) (by unfold gb_N; omega) g1 (fun f g i hi => ?_) fun f g2 h2 F2 => ?_
    · show f_X11_giveBack_35 sh (f + 1) g y1 (Int32.ofNat i) = f_X11_giveBack_35 sh f _ y1 _
      rw [f_X11_giveBack_35, if_neg (by rw [show (16 : Int32) = Int32.ofNat 16 from rfl, o_le (by omega) (by omega)]; omega), gb_ck_s (o_in (by omega) (by omega)), gb_ck_s (o_in (by omega) (by omega)), gb_let_s, o_cl (by omega), o_succ, Nat.zero_add]
    · show gb_T (f_X11_giveBack_35 sh (f + 1) g2 y1 (Int32.ofNat 16)) _
      rw [f_X11_giveBack_35, if_pos (by decide), gb_let_s]
      refine ⟨_, rfl, fun k hk => ?_, fun k hk => ?_, fun k hk => ?_, pi_e, fun c k q => ?_⟩
      · rw [pi_n (by omega), (F2 79 _ (by omega)).1, (F1 79 _ (by omega)).1]
        exact p1 k hk
      · have z := h1 k hk
        rw [Nat.zero_add] at z
        rw [pi_n (by omega), (F2 82 _ (by omega)).1, z, (p2 84 k (by omega)).1]
      · have z := h2 k hk
        rw [Nat.zero_add] at z
        rw [pi_n (by omega), z, (F1 85 k (by omega)).1, (p2 85 k (by omega)).1]
      · exact eqc_tr (p2 c k (by omega)) (eqc_tr (F1 c k (by omega)) (eqc_tr (F2 c k (by omega)) (eqpi (by omega))))
theorem o77 {sh : List gb_Sh} {g : gb_G} {y1 : Int32} {P : gb_G × Int32 → Prop} (fin : ∀ g', (∀ k, k < 432 → g'.1 84 k = g.1 82 k) → (∀ k, k < 16 → g'.1 85 k = g.1 83 k) → g'.1 77 49 = 0 → g'.1 77 50 = -1 → gb_Fr (fun c k => (c = 77 ∧ (k = 49 ∨ k = 50)) ∨ c = 84 ∨ c = 85) g g' → gb_T (f_X11_orders_140 sh gb_N g' y1 0) P) : gb_T (f_X11_orders_77 sh gb_N g y1 0) P := by
  refine cpl0 (fun fuel g y => f_X11_orders_77 sh fuel g y1 y) 84 82 0 0 432 (by omega) (by unfold gb_N; omega) g (fun f g i hi => ?_) fun f g1 h1 F1 => ?_
  · show f_X11_orders_77 sh (f + 1) g y1 (Int32.ofNat i) = f_X11_orders_77 sh f _ y1 _
    rw [f_X11_orders_77, if_neg (by rw [show (432 : Int32) = Int32.ofNat 432 from rfl, o_le (by omega) (by omega)]; omega), gb_ck_s (o_in (by omega) (by omega)), gb_ck_s (o_in (by omega) (by omega)), gb_let_s, o_cl (by omega), o_succ, Nat.zero_add]
  · show gb_T (f_X11_orders_77 sh (f + 1) g1 y1 (Int32.ofNat 432)) _
    rw [f_X11_orders_77, if_pos (by decide)]
    refine cpl0 (fun fuel g y => f_X11_orders_104 sh fuel g y1 y) 85 83 0 0 16 (by omega) (by unfold gb_N; omega) g1 (fun f g i hi => ?_) fun f g2 h2 F2 => ?_
    · show f_X11_orders_104 sh (f + 1) g y1 (Int32.ofNat i) = f_X11_orders_104 sh f _ y1 _
      rw [f_X11_orders_104, if_neg (by rw [show (16 : Int32) = Int32.ofNat 16 from rfl, o_le (by omega) (by omega)]; omega), gb_ck_s (o_in (by omega) (by omega)), gb_ck_s (o_in (by omega) (by omega)), gb_let_s, o_cl (by omega), o_succ, Nat.zero_add]
    · show gb_T (f_X11_orders_104 sh (f + 1) g2 y1 (Int32.ofNat 16)) _
      rw [f_X11_orders_104, if_pos (by decide), gb_let_s, gb_let_s]
      refine fin _ (fun k hk => ?_) (fun k hk => ?_) ((pi_n (by omega)).trans pi_e) pi_e fun c k q => ?_
      · have z := h1 k hk
        rw [Nat.zero_add] at z
        rw [pi_n (by omega), pi_n (by omega), (F2 84 _ (by omega)).1, z]
      · have z := h2 k hk
        rw [Nat.zero_add] at z
        rw [pi_n (by omega), pi_n (by omega), z, (F1 83 k (by omega)).1]
      · exact eqc_tr (F1 c k (by omega)) (eqc_tr (F2 c k (by omega)) (eqc_tr (eqpi (by omega)) (eqpi (by omega))))
/-- what orders() may write in the reference -/
def Wq (c k : Nat) : Prop := (c = 77 ∧ ¬ (k = 11 ∨ k = 55)) ∨ (c = 78 ∧ k = 3) ∨ c = 79 ∨ (82 ≤ c ∧ c ≤ 85) ∨ (87 ≤ c ∧ c ≤ 91) ∨ (95 ≤ c ∧ c ≤ 97) ∨ c = 103
def OR1 (g : gb_G) (β : ms_B) (H : ms_H) (R : Option (gb_G × Int32)) : Nat ⊕ OS → Prop
  | .inl j => ∃ o, R = some (o, -3) ∧ mvB (o.1 79) β ∧ mvH o H (bN β) ∧ o.1 77 51 = Int32.ofNat j ∧ o.1 77 1 = -3 ∧ o.1 78 3 = g.1 78 3 + 1 ∧ o.1 77 18 = -1 ∧ o.1 77 20 = 0 ∧ o.1 77 13 = 0 ∧ gb_Fr Wq g o
  | .inr σ' => ∃ o, R = some (o, Int32.ofNat σ'.2.2.1) ∧ mvB (o.1 79) σ'.1 ∧ mvH o σ'.2.1 (bN σ'.1) ∧ o.1 77 51 = -1 ∧ o.1 77 1 = 0 ∧ o.1 78 3 = g.1 78 3 ∧ o.1 77 18 = -1 ∧ o.1 77 20 = 0 ∧ o.1 77 13 = 0 ∧ gb_Fr Wq g o
set_option maxHeartbeats 1000000 in
theorem ordR {sh : List gb_Sh} {g : gb_G} {n : Nat} {B : Nat → Int32} {cs : List Cl} {φ : Bool} {β : ms_B} {H : ms_H} (hn : n ≤ 400) (hT : mvTp g n B) (hC : mvC g) (ho : txO n B true 12 (skp n B 400 0) 0 [] false = .inr (cs, φ)) (hwf : ∀ q ∈ cs, wfCl true φ q) (hl : cs.length ≤ 12) (hm : mvB (g.1 79) β) (hh : mvH g H (bN β)) (hσ : wfO (β, H, 0, -1)) : OR1 g β H (f_X11_orders sh g) (rnO cs 0 (β, H, 0, -1)) := by
  have hw : wfB β := hσ.1
  have hN : H.1 ≤ 16 := hσ.2.1.1
  have hb := hw.1
  have L := ordt_m (sh := sh) hn hT hC
  rw [ho] at L
  obtain ⟨r, cd, l1, l2, l3, l4, l5, l6, l7, l8, l9, l10⟩ := L
  have E0 : ∀ c k, ¬ (c = 77 ∧ (k = 0 ∨ k = 51)) → ¬ Wt c k → eqc g r c k := fun c k q1 q2 => eqc_tr (eqpi (by omega)) (eqc_tr (eqpi (by omega)) (l2 c k q2))
  have r51 : r.1 77 51 = -1 := (l2 77 51 (by unfold Wt; omega)).1.trans pi_e
  obtain ⟨r9, e9, k1, k2⟩ := ka_m (sh := sh) (q := 17) (g := r) (by omega)
  have e9 : f_X11_keepAll sh r 17 = some r9 := e9
  have E9 : ∀ c k, ¬ (c = 77 ∧ (k = 0 ∨ k = 51)) → ¬ Wt c k → ¬ (c = 82 ∧ 459 ≤ k) → eqc g r9 c k := fun c k q1 q2 q3 => eqc_tr (E0 c k q1 q2) (k2 c k (by omega))
  have n8 : r9.1 77 8 = Int32.ofNat H.1 := (E9 77 8 (by omega) (by unfold Wt; omega) (by omega)).1.trans hh.1
  have e0 : f_X11_orders sh g = f_X11_orders_77 sh gb_N r9 (Int32.ofNat H.1) 0 := by
    rw [l1]
    unfold ordK
    rw [if_pos l3, e9, gb_bd_s, n8]
  have key : gb_T (f_X11_orders_77 sh gb_N r9 (Int32.ofNat H.1) 0) (fun o => OR1 g β H (some o) (rnO cs 0 (β, H, 0, -1))) := by
    refine o77 fun g1 c84 c85 c49 c50 F1 => ?_
    have E1 : ∀ c k, ¬ (c = 77 ∧ (k = 0 ∨ k = 49 ∨ k = 50 ∨ k = 51)) → ¬ Wt c k → ¬ (c = 82 ∧ 459 ≤ k) → ¬ (c = 84 ∨ c = 85) → eqc g g1 c k := fun c k q1 q2 q3 q4 => eqc_tr (E9 c k (by omega) q2 q3) (F1 c k (by omega))
    have hM : MSo g1 (β, H, 0, -1) := ⟨mvB_fr hm hw fun k _ => (E1 79 k (by omega) (by unfold Wt; omega) (by omega) (by omega)).1, mvH_fr hN hh fun c k q => E1 c k (by omega) (by unfold Wt; omega) (by omega) (by omega), c49, c50, (F1 77 20 (by omega)).1.trans ((k2 77 20 (by omega)).1.trans l5)⟩
    have hP : PGm g1 cs cd φ := ⟨l8, hl, (F1 77 21 (by omega)).1.trans ((k2 77 21 (by omega)).1.trans l9), (funext fun k => (F1 88 k (by omega)).1.trans (k2 88 k (by omega)).1).trans l7.2.1, (funext fun k => (F1 89 k (by omega)).1.trans (k2 89 k (by omega)).1).trans l7.2.2, fun i q hq => gM_lo (l10 i q hq) lowR_rf (Nat.le_refl _) fun k _ => (F1 103 _ (by omega)).1.trans (k2 103 _ (by omega)).1, hwf⟩
    have T := t140 (sh := sh) (y1 := Int32.ofNat H.1) (β0 := β) cs 0 gb_N g1 (β, H, 0, -1) (by omega) (fun k => by rw [Nat.zero_add]) (by unfold gb_N; omega) (by show 0 + 20 * cs.length ≤ 1000; omega) hP hσ kpB.rf hM
    have q51 : g1.1 77 51 = -1 := (F1 77 51 (by omega)).1.trans ((k2 77 51 (by omega)).1.trans r51)
    have q18 : g1.1 77 18 = -1 := (F1 77 18 (by omega)).1.trans ((k2 77 18 (by omega)).1.trans l4)
    have q13 : g1.1 77 13 = 0 := (F1 77 13 (by omega)).1.trans ((k2 77 13 (by omega)).1.trans l6)
    have FQ : gb_Fr Wq g g1 := fun c k z => by
      by_cases z82 : c = 82
      · exact absurd (show Wq c k by unfold Wq; omega) z
      · exact E1 c k (by unfold Wq at z; omega) (by unfold Wq at z; unfold Wt; omega) (by omega) (by unfold Wq at z; omega)
    obtain ⟨v1, v2⟩ := rn_w (φ := φ) (β0 := β) cs 0 (β, H, 0, -1) hwf hσ kpB.rf
    cases hr : rnO cs 0 (β, H, 0, -1) with
    | inl j =>
      rw [hr] at T
      obtain ⟨g', β', x1, x2, x3, x4, x5, x6, x7⟩ := T
      obtain ⟨o, eo, p1, p2, p3, p4, p5⟩ := gb_m (sh := sh) (g := g') (y1 := Int32.ofNat H.1)
      have ef : failO sh g' (Int32.ofNat H.1) (Int32.ofNat j) = some (gb_pi (gb_pi (gb_pi o 77 51 (Int32.ofNat j)) 77 1 (-3)) 78 3 ((gb_pi o 77 51 (Int32.ofNat j)).1 78 3 + 1), -3) := by
        unfold failO
        rw [eo, gb_bd_s, gb_let_s, te_n 3 (by omega) rfl (by decide), gb_bd_s]
      have x1 : f_X11_orders_140 sh gb_N g1 (Int32.ofNat H.1) 0 = _ := x1
      have EO : ∀ c k, ¬ (c = 77 ∧ (k = 1 ∨ k = 51)) → ¬ (c = 78 ∧ k = 3) → eqc o (gb_pi (gb_pi (gb_pi o 77 51 (Int32.ofNat j)) 77 1 (-3)) 78 3 ((gb_pi o 77 51 (Int32.ofNat j)).1 78 3 + 1)) c k := fun c k q1 q2 => eqc_tr (eqpi (by omega)) (eqc_tr (eqpi (by omega)) (eqpi (by omega)))
      refine ⟨_, x1.trans ef, _, rfl, ?_, ⟨?_, fun k hk => ⟨?_, fun i hi hri => ?_⟩⟩, ?_, ?_, ?_, ?_, ?_, ?_, ?_⟩
      · have z : mvB (o.1 79) (bCur β' (cur β)) := mvB_cur x3 x2 (fun i hi => by
          rw [x4.n] at hi
          have hi27 : i < 27 := by unfold ms_rl at hi; omega
          rw [p1 i hi27, x5 (459 + i) (by omega), (F1 82 _ (by omega)).1, k1 i hi27, (E0 79 _ (by omega) (by unfold Wt; omega)).1]
          exact mv_cur hw hm hi) (fun k _ hk => (p5 79 k (by omega)).1)
        rw [x4 (cur β)] at z
        exact mvB_fr (mvB_cc hw z) hw fun k _ => (EO 79 k (by omega) (by omega)).1
      · exact (EO 77 8 (by omega) (by omega)).1.trans p4
      · have hk16 : k < 16 := by omega
        rw [(EO 83 k (by omega) (by omega)).1, p3 k hk16, (x7 85 k (by unfold Wr; omega)).1, c85 k hk16, (E9 83 k (by omega) (by unfold Wt; omega) (by omega)).1]
        exact (hh.2 k hk).1
      · have hk16 : k < 16 := by omega
        rw [(EO 82 _ (by omega) (by omega)).1, p2 _ (by omega), (x7 84 _ (by unfold Wr; omega)).1, c84 _ (by omega), (E9 82 _ (by omega) (by unfold Wt; omega) (by omega)).1]
        exact (hh.2 k hk).2 i hi hri
      · exact (pi_n (by omega)).trans ((pi_n (by omega)).trans pi_e)
      · exact (pi_n (by omega)).trans pi_e
      · rw [pi_e, pi_n (by omega), (p5 78 3 (by omega)).1, (x7 78 3 (by unfold Wr; omega)).1, (E1 78 3 (by omega) (by unfold Wt; omega) (by omega) (by omega)).1]
      · exact (EO 77 18 (by omega) (by omega)).1.trans ((p5 77 18 (by omega)).1.trans ((x7 77 18 (by unfold Wr; omega)).1.trans q18))
      · exact (EO 77 20 (by omega) (by omega)).1.trans ((p5 77 20 (by omega)).1.trans x6)
      · exact (EO 77 13 (by omega) (by omega)).1.trans ((p5 77 13 (by omega)).1.trans ((x7 77 13 (by unfold Wr; omega)).1.trans q13))
      · exact fun c k z => eqc_tr (FQ c k z) (eqc_tr (x7 c k (by unfold Wq at z; unfold Wr; omega)) (eqc_tr (p5 c k (by unfold Wq at z; omega)) (EO c k (by unfold Wq at z; omega) (by unfold Wq at z; omega))))
    | inr σ' =>
      rw [hr] at T
      obtain ⟨g', x1, x2, x3⟩ := T
      obtain ⟨u1, u2, u3⟩ := v2 σ' hr
      have u2 : σ'.2.2.1 ≤ 0 + 20 * cs.length := u2
      have x1 : f_X11_orders_140 sh gb_N g1 (Int32.ofNat H.1) 0 = _ := x1
      have ef : gb_bd (f_X11_tell sh g' (g'.1 77 49)) (fun r13 => some (r13.1, r13.2)) = some (gb_pi g' 77 1 0, Int32.ofNat σ'.2.2.1) := by
        rw [x2.2.2.1, te_p (by rw [o_int (by omega)]; omega), gb_bd_s]
      have EO : ∀ c k, ¬ (c = 77 ∧ k = 1) → eqc g' (gb_pi g' 77 1 0) c k := fun c k q => eqpi q
      refine ⟨_, x1.trans ef, _, rfl, mvB_fr x2.1 u1.1 fun k _ => (EO 79 k (by omega)).1, mvH_fr u1.2.1.1 x2.2.1 fun c k q => EO c k (by omega), ?_, pi_e, ?_, ?_, ?_, ?_, ?_⟩
      · exact (EO 77 51 (by omega)).1.trans ((x3 77 51 (by unfold Wr; omega)).1.trans q51)
      · exact (EO 78 3 (by omega)).1.trans ((x3 78 3 (by unfold Wr; omega)).1.trans (E1 78 3 (by omega) (by unfold Wt; omega) (by omega) (by omega)).1)
      · exact (EO 77 18 (by omega)).1.trans ((x3 77 18 (by unfold Wr; omega)).1.trans q18)
      · exact (EO 77 20 (by omega)).1.trans x2.2.2.2.2
      · exact (EO 77 13 (by omega)).1.trans ((x3 77 13 (by unfold Wr; omega)).1.trans q13)
      · exact fun c k z => eqc_tr (FQ c k z) (eqc_tr (x3 c k (by unfold Wq at z; unfold Wr; omega)) (EO c k (by unfold Wq at z; omega)))
  obtain ⟨o, e1, e2⟩ := key
  rw [e0, e1]
  exact e2
