/-! ===== orders() ===== -/
theorem hcp_c {sh : List gb_Sh} {g : gb_G} {b b1 n : Nat} {H : ms_H} (hb : b + 4 < b1 ∨ b1 + 4 < b) (hn : n ≤ 8) (hN : H.1 ≤ 16) (h : cvH g b1 H n) : gb_T (f_X3_copyFrom sh g b b1) (fun o => cvH o b H n) := by
  obtain ⟨h0, h1⟩ := h
  unfold f_X3_copyFrom
  rw [gb_let_s, gb_cp_s (by decide), gb_let_s, gb_cp_s (by decide), gb_let_s, gb_cp_s (by decide), gb_let_s, gb_cp_s (by decide), gb_let_s]
  have t0 : (0 : Int32).toNatClampNeg = 0 := by decide
  have t16 : (16 : Int32).toNatClampNeg = 16 := by decide
  have t128 : (128 : Int32).toNatClampNeg = 128 := by decide
  refine ⟨_, rfl, ?_, fun k hk => ?_⟩
  · rw [pa_n (by omega), pa_n (by omega), pa_n (by omega), pa_n (by omega), pi_e]; exact h0
  · obtain ⟨a1, a2, a3, a4⟩ := h1 k hk
    have e : ∀ j, 0 + (j - 0) = j := fun j => by omega
    refine ⟨?_, fun q => ?_, fun q => ?_, fun q i hi => ?_⟩
    · rw [← a1, pa_n (by omega), pa_n (by omega), pa_n (by omega), pa_e, t0, t16, pk_cpy_in (by omega) (by omega), e, pi_n (by omega)]
    · rw [← a2 q, pa_n (by omega), pa_n (by omega), pa_e, t0, t16, pk_cpy_in (by omega) (by omega), e, pa_n (by omega), pi_n (by omega)]
    · rw [← a3 q, pa_n (by omega), pa_e, t0, t16, pk_cpy_in (by omega) (by omega), e, pa_n (by omega), pa_n (by omega), pi_n (by omega)]
    · rw [← a4 q i hi, pa_e, t0, t128, pk_cpy_in (by omega) (by omega), e, pa_n (by omega), pa_n (by omega), pa_n (by omega), pi_n (by omega)]
def gb_I3 (sh : List gb_Sh) (g : gb_G) : Prop := gb_I sh g ∧ g.1 51 0 = 0 ∧ im9 (g.1 75 3)
/-- what orders() may write in the class -/
def Wc (c k : Nat) : Prop := (c = 0 ∧ (k = 15 ∨ k = 17 ∨ k = 18)) ∨ (1 ≤ c ∧ c ≤ 12) ∨ (33 ≤ c ∧ c ≤ 43) ∨ (45 ≤ c ∧ c ≤ 51) ∨ c = 53 ∨ (55 ≤ c ∧ c ≤ 60) ∨ c = 75 ∨ (c = 76 ∧ k = 3)
def OC1 (sh : List gb_Sh) (g : gb_G) (β : ms_B) (H : ms_H) (R : Option (gb_G × Int32)) : Nat ⊕ OS → Prop
  | .inl j => ∃ o, R = some (o, -3) ∧ cvB sh o 1 β ∧ cvH o 33 H (bN β) ∧ o.1 0 15 = -1 ∧ o.1 0 17 = Int32.ofNat j ∧ o.1 0 18 = -3 ∧ o.1 76 3 = g.1 76 3 + 1 ∧ o.1 43 1 = 0 ∧ o.1 51 0 = 0 ∧ im9 (o.1 75 3) ∧ (∀ k, k < 6 → o.2.2 6 k = g.2.2 6 k ∧ o.2.2 12 k = g.2.2 6 k) ∧ gb_Fr Wc g o
  | .inr σ' => ∃ o, R = some (o, Int32.ofNat σ'.2.2.1) ∧ cvB sh o 1 σ'.1 ∧ cvH o 33 σ'.2.1 (bN σ'.1) ∧ o.1 0 15 = -1 ∧ o.1 0 17 = -1 ∧ o.1 0 18 = 0 ∧ o.1 76 3 = g.1 76 3 ∧ o.1 43 1 = 0 ∧ o.1 51 0 = 0 ∧ im9 (o.1 75 3) ∧ (∀ k, k < 6 → o.2.2 6 k = g.2.2 6 k ∧ o.2.2 12 k = g.2.2 6 k) ∧ gb_Fr Wc g o
set_option maxHeartbeats 1000000 in
theorem ordC {sh : List gb_Sh} {g r : gb_G} {cs : List Cl} {φ : Bool} {c : Nat} {β : ms_B} {H : ms_H} (hL : LN sh) (hF : ∀ k a, k < 6 → g.2.2 6 k = some a → gb_okX7 sh a) (h51 : g.1 51 0 = 0) (h75 : im9 (g.1 75 3)) (hc : cvB sh g 1 β) (hh : cvH g 33 H (bN β)) (hσ : wfO (β, H, 0, -1))
    (r1 : f_X8_read sh (gb_pi g 0 17 (-1)) 1 = some (r, -1)) (r2 : r.1 43 1 = 0) (r3 : r.1 51 0 = (gb_pi g 0 17 (-1)).1 51 0) (r4 : c ≤ 400) (r5 : cs.length ≤ 12) (r6 : r.1 46 0 = Int32.ofNat c) (r7 : r.1 46 3 = Int32.ofNat cs.length) (r8 : r.1 46 7 = (if φ = true then 1 else 0)) (r9 : ∀ i q, cs[i]? = some q → gC r (nW true) i c q) (r10 : ∀ q ∈ cs, wfCl true φ q) : OC1 sh g β H (f_X10_orders sh g) (rnO cs 0 (β, H, 0, -1)) := by
  have hw : wfB β := hσ.1
  have hb := hw.1
  have hN : H.1 ≤ 16 := hσ.2.1.1
  have W := w_X8_read r1
  have E1 : ∀ a k, ¬ (a = 0 ∧ (k = 15 ∨ k = 17)) → ¬ a = 43 → ¬ (45 ≤ a ∧ a ≤ 51) → eqc g (gb_pi r 0 15 (-1)) a k := fun a k q1 q2 q3 => eqc_tr (eqpi (by omega)) (eqc_tr (W a k (by omega)) (eqpi (by omega)))
  obtain ⟨g4, hg4⟩ : ∃ x, x = gb_pi r 0 15 (-1) := ⟨_, rfl⟩
  rw [← hg4] at E1
  have g4r : ∀ a k, ¬ (a = 0 ∧ k = 15) → g4.1 a k = r.1 a k := fun a k q => by rw [hg4]; exact pi_n q
  have hc4 : cvB sh g4 1 β := cvB_fr hc fun a k q => E1 a k (by omega) (by omega) (by omega)
  obtain ⟨g5, e5, c5, p5⟩ := cpB (sh := sh) (b := 7) (b1 := 1) hw (by omega) (by omega) hc4 (fun j a hj hq => hF j a hj (by rw [← (E1 6 j (by omega) (by omega) (by omega)).2.2]; exact hq))
  have F5 := w_X0_copyFrom e5
  have E5 : ∀ a k, ¬ (a = 0 ∧ (k = 15 ∨ k = 17)) → ¬ a = 43 → ¬ (45 ≤ a ∧ a ≤ 51) → ¬ (7 ≤ a ∧ a ≤ 12) → eqc g g5 a k := fun a k q1 q2 q3 q4 => eqc_tr (E1 a k q1 q2 q3) (F5 a k (by omega))
  obtain ⟨g7, e7, c7⟩ := hcp_c (sh := sh) (b := 38) (b1 := 33) (g := g5) (H := H) (n := bN β) (by omega) hb hN (cvH_fr hh fun a k q => E5 a k (by omega) (by omega) (by omega) (by omega))
  have F7 := w_X3_copyFrom e7
  obtain ⟨g8, hg8⟩ : ∃ x, x = gb_pi (gb_pi g7 75 1 0) 75 2 (-1) := ⟨_, rfl⟩
  have E78 : ∀ a k, ¬ (a = 75 ∧ (k = 1 ∨ k = 2)) → eqc g7 g8 a k := fun a k q => by rw [hg8]; exact eqc_tr (eqpi (by omega)) (eqpi (by omega))
  have E58 : ∀ a k, ¬ (38 ≤ a ∧ a ≤ 42) → ¬ (a = 75 ∧ (k = 1 ∨ k = 2)) → eqc g5 g8 a k := fun a k q1 q2 => eqc_tr (F7 a k (by omega)) (E78 a k q2)
  have E48 : ∀ a k, ¬ (7 ≤ a ∧ a ≤ 12) → ¬ (38 ≤ a ∧ a ≤ 42) → ¬ (a = 75 ∧ (k = 1 ∨ k = 2)) → eqc g4 g8 a k := fun a k q0 q1 q2 => eqc_tr (F5 a k (by omega)) (E58 a k q1 q2)
  have E8 : ∀ a k, ¬ (a = 0 ∧ (k = 15 ∨ k = 17)) → ¬ a = 43 → ¬ (45 ≤ a ∧ a ≤ 51) → ¬ (7 ≤ a ∧ a ≤ 12) → ¬ (38 ≤ a ∧ a ≤ 42) → ¬ (a = 75 ∧ (k = 1 ∨ k = 2)) → eqc g g8 a k := fun a k q1 q2 q3 q4 q5 q6 => eqc_tr (E5 a k q1 q2 q3 q4) (E58 a k q5 q6)
  have s15 : g8.1 0 15 = -1 := (E48 0 15 (by omega) (by omega) (by omega)).1.trans (by rw [hg4]; exact pi_e)
  have s17 : g8.1 0 17 = -1 := (E48 0 17 (by omega) (by omega) (by omega)).1.trans ((g4r 0 17 (by omega)).trans ((W 0 17 (by omega)).1.trans pi_e))
  have s43 : g8.1 43 1 = 0 := (E48 43 1 (by omega) (by omega) (by omega)).1.trans ((g4r 43 1 (by omega)).trans r2)
  have s51 : g8.1 51 0 = 0 := (E48 51 0 (by omega) (by omega) (by omega)).1.trans ((g4r 51 0 (by omega)).trans (r3.trans ((pi_n (by omega)).trans h51)))
  have hP : PGc g8 cs c φ := by
    have z : ∀ a k, 46 ≤ a ∧ a ≤ 51 → g8.1 a k = r.1 a k := fun a k q => (E48 a k (by omega) (by omega) (by omega)).1.trans (g4r a k (by omega))
    exact ⟨r4, r5, (z _ _ (by omega)).trans r6, (z _ _ (by omega)).trans r7, (z _ _ (by omega)).trans r8, fun i q hq => gG (r9 i q hq) fun a k q => z a k (by omega), r10⟩
  have hS : CSo sh g8 (β, H, 0, -1) := ⟨cvB_fr hc fun a k q => E8 a k (by omega) (by omega) (by omega) (by omega) (by omega) (by omega), cvH_fr hh fun a k q => E8 a k (by omega) (by omega) (by omega) (by omega) (by omega) (by omega), by rw [hg8]; exact (pi_n (by omega)).trans pi_e, by rw [hg8]; exact pi_e, by rw [(E8 75 3 (by omega) (by omega) (by omega) (by omega) (by omega) (by omega)).1]; exact h75⟩
  have p8 : ∀ k, k < 6 → g8.2.2 6 k = g.2.2 6 k ∧ g8.2.2 12 k = g.2.2 6 k := fun k hk => ⟨(E8 6 k (by omega) (by omega) (by omega) (by omega) (by omega) (by omega)).2.2, (E58 12 k (by omega) (by omega)).2.2.trans ((p5 k hk).trans (E1 6 k (by omega) (by omega) (by omega)).2.2)⟩
  have FC : gb_Fr Wc g g8 := fun a k z => E8 a k (by unfold Wc at z; omega) (by unfold Wc at z; omega) (by unfold Wc at z; omega) (by unfold Wc at z; omega) (by unfold Wc at z; omega) (by unfold Wc at z; omega)
  have c7' : cvH g8 38 H (bN β) := cvH_fr c7 fun a k q => E78 a k (by omega)
  have c5' : cvB sh g8 7 β := cvB_fr c5 fun a k q => E58 a k (by omega) (by omega)
  have e0 : f_X10_orders sh g = f_X10_orders_78 sh gb_N g8 0 := by
    unfold f_X10_orders
    rw [gb_let_s, r1, gb_bd_s, gb_let_s]
    simp only []
    rw [← hg4, if_pos (show g4.1 0 15 = -1 by rw [hg4]; exact pi_e), e5, gb_bd_s, e7, gb_bd_s, gb_let_s, gb_let_s, ← hg8]
  rw [e0]
  have T := t78 (β0 := β) hL cs 0 gb_N g8 (β, H, 0, -1) (by omega) (fun k => by rw [Nat.zero_add]) (by unfold gb_N; omega) (by show 0 + 20 * cs.length ≤ 1000; omega) hP hσ kpB.rf hS s17
  have T : T78 sh g8 (f_X10_orders_78 sh gb_N g8 0) _ := T
  obtain ⟨v1, v2⟩ := rn_w (φ := φ) (β0 := β) cs 0 (β, H, 0, -1) r10 hσ kpB.rf
  cases hr : rnO cs 0 (β, H, 0, -1) with
  | inr σ' =>
    rw [hr] at T
    obtain ⟨g', x1, x2, x3, x4⟩ := T
    obtain ⟨u1, u2, u3⟩ := v2 σ' hr
    have EO : ∀ a k, ¬ (a = 0 ∧ k = 18) → eqc g' (gb_pi g' 0 18 0) a k := fun a k q => eqpi q
    have e1 : f_X10_orders_140 sh g' = some (gb_pi g' 0 18 0, Int32.ofNat σ'.2.2.1) := by
      unfold f_X10_orders_140
      rw [if_pos x2, x3.2.2.1, gr, gb_bd_s]
    rw [x1, e1]
    refine ⟨_, rfl, cvB_fr x3.1 fun a k q => EO a k (by omega), cvH_fr x3.2.1 fun a k q => EO a k (by omega), ?_, ?_, pi_e, ?_, ?_, ?_, ?_, fun k hk => ?_, fun a k z => ?_⟩
    · exact (EO 0 15 (by omega)).1.trans ((x4 0 15 (by unfold Wo; omega)).1.trans s15)
    · exact (EO 0 17 (by omega)).1.trans x2
    · exact (EO 76 3 (by omega)).1.trans ((x4 76 3 (by unfold Wo; omega)).1.trans (E8 76 3 (by omega) (by omega) (by omega) (by omega) (by omega) (by omega)).1)
    · exact (EO 43 1 (by omega)).1.trans ((x4 43 1 (by unfold Wo; omega)).1.trans s43)
    · exact (EO 51 0 (by omega)).1.trans ((x4 51 0 (by unfold Wo; omega)).1.trans s51)
    · rw [(EO 75 3 (by omega)).1]; exact x3.2.2.2.2
    · exact ⟨(EO 6 k (by omega)).2.2.trans ((x4 6 k (by unfold Wo; omega)).2.2.trans (p8 k hk).1), (EO 12 k (by omega)).2.2.trans ((x4 12 k (by unfold Wo; omega)).2.2.trans (p8 k hk).2)⟩
    · exact eqc_tr (FC a k z) (eqc_tr (x4 a k (by unfold Wc at z; unfold Wo; omega)) (EO a k (by unfold Wc at z; omega)))
  | inl j =>
    rw [hr] at T
    obtain ⟨g', x1, x2, x3, x4⟩ := T
    have hj := v1 j hr
    have X : ∀ a k, ¬ Wo a k → eqc g8 g' a k := fun a k z => x4 a k z
    obtain ⟨g9, e9, c9, p9⟩ := cpB (sh := sh) (b := 1) (b1 := 7) (g := g') hw (by omega) (by omega) (cvB_fr c5' fun a k q => X a k (by unfold Wo; omega)) (fun k a hk hq => hF k a hk (by rw [← (p8 k hk).2, ← (X 12 k (by unfold Wo; omega)).2.2]; exact hq))
    have F9 := w_X0_copyFrom e9
    obtain ⟨g10, e10, c10⟩ := hcp_c (sh := sh) (b := 33) (b1 := 38) (g := g9) (H := H) (n := bN β) (by omega) hb hN (cvH_fr (cvH_fr c7' fun a k q => X a k (by unfold Wo; omega)) fun a k q => F9 a k (by omega))
    have F10 := w_X3_copyFrom e10
    have e11 := rf (sh := sh) (g := g10) (v := -3) 3 (by omega) rfl
    obtain ⟨o, ho⟩ : ∃ x, x = gb_pi (gb_pi g10 0 18 (-3)) 76 3 (g10.1 76 3 + 1) := ⟨_, rfl⟩
    rw [← ho] at e11
    have EO : ∀ a k, ¬ (a = 0 ∧ k = 18) → ¬ (a = 76 ∧ k = 3) → eqc g10 o a k := fun a k q1 q2 => by rw [ho]; exact eqc_tr (eqpi (by omega)) (eqpi (by omega))
    have EX : ∀ a k, ¬ (1 ≤ a ∧ a ≤ 6) → ¬ (33 ≤ a ∧ a ≤ 37) → ¬ (a = 0 ∧ k = 18) → ¬ (a = 76 ∧ k = 3) → eqc g' o a k := fun a k q1 q2 q3 q4 => eqc_tr (F9 a k (by omega)) (eqc_tr (F10 a k (by omega)) (EO a k q3 q4))
    have e1 : f_X10_orders_140 sh g' = some (o, -3) := by
      unfold f_X10_orders_140
      rw [if_neg (by rw [x2]; exact i17 (by omega)), e9, gb_bd_s, e10, gb_bd_s, e11, gb_bd_s]
    rw [x1, e1]
    refine ⟨_, rfl, cvB_fr (cvB_fr c9 fun a k q => F10 a k (by omega)) fun a k q => EO a k (by omega) (by omega), cvH_fr c10 fun a k q => EO a k (by omega) (by omega), ?_, ?_, ?_, ?_, ?_, ?_, ?_, fun k hk => ⟨?_, ?_⟩, fun a k z => ?_⟩
    · exact (EX 0 15 (by omega) (by omega) (by omega) (by omega)).1.trans ((X 0 15 (by unfold Wo; omega)).1.trans s15)
    · exact (EX 0 17 (by omega) (by omega) (by omega) (by omega)).1.trans x2
    · rw [ho]; exact (pi_n (by omega)).trans pi_e
    · rw [ho, pi_e, (F10 76 3 (by omega)).1, (F9 76 3 (by omega)).1, (X 76 3 (by unfold Wo; omega)).1, (E8 76 3 (by omega) (by omega) (by omega) (by omega) (by omega) (by omega)).1]
    · exact (EX 43 1 (by omega) (by omega) (by omega) (by omega)).1.trans ((X 43 1 (by unfold Wo; omega)).1.trans s43)
    · exact (EX 51 0 (by omega) (by omega) (by omega) (by omega)).1.trans ((X 51 0 (by unfold Wo; omega)).1.trans s51)
    · rw [(EX 75 3 (by omega) (by omega) (by omega) (by omega)).1]; exact x3
    · exact (EO 6 k (by omega) (by omega)).2.2.trans ((F10 6 k (by omega)).2.2.trans ((p9 k hk).trans ((X 12 k (by unfold Wo; omega)).2.2.trans (p8 k hk).2)))
    · exact (EX 12 k (by omega) (by omega) (by omega) (by omega)).2.2.trans ((X 12 k (by unfold Wo; omega)).2.2.trans (p8 k hk).2)
    · exact eqc_tr (FC a k z) (eqc_tr (X a k (by unfold Wc at z; unfold Wo; omega)) (EX a k (by unfold Wc at z; omega) (by unfold Wc at z; omega) (by unfold Wc at z; omega) (by unfold Wc at z; omega)))
set_option maxHeartbeats 1000000 in
theorem p_orders : ps_orders gb_I3 := by
  intro sh g hI3
  obtain ⟨hI, h51, h75⟩ := hI3
  have hI0 := hI
  obtain ⟨⟨hS, h105⟩, ⟨hC, h20⟩, hF, hM, hR, hT, hD, hII, β, ⟨hw, hc, hm⟩, hU⟩ := hI0
  obtain ⟨n, hn, t1, t2, t3⟩ := hT
  obtain ⟨H, hh, hhm, hwH⟩ := U_of hw hm hU
  have hL : LN sh := ln_S hS
  have hσ : wfO (β, H, 0, -1) := ⟨hw, hwH, (show im (-1) 99 (-1 : Int32) by rw [im]; decide)⟩
  have hB : ∀ j, j < n → im 0 255 (g.1 44 j) := fun j hj => (t3 j hj).2
  have rd : TO1 n true (gb_pi g 0 17 (-1)) (f_X8_read sh (gb_pi g 0 17 (-1)) 1) (txO n (g.1 44) true 12 (skp n (g.1 44) 400 0) 0 [] false) := read_c (ord := true) hn hB hL ⟨(pi_n (by omega)).trans t1, fun j _ => pi_n (by omega)⟩ ((pi_n (by omega)).trans h51)
  cases ho : txO n (g.1 44) true 12 (skp n (g.1 44) 400 0) 0 [] false with
  | inl p =>
    rw [ho] at rd
    obtain ⟨hp, r, r1, r2, r3⟩ := rd
    have W := w_X8_read r1
    have e1 := rf (sh := sh) (g := gb_pi r 0 15 (Int32.ofNat p)) (v := -6) 6 (by omega) rfl
    obtain ⟨g1, hg1⟩ : ∃ x, x = gb_pi (gb_pi (gb_pi r 0 15 (Int32.ofNat p)) 0 18 (-6)) 76 6 ((gb_pi r 0 15 (Int32.ofNat p)).1 76 6 + 1) := ⟨_, rfl⟩
    rw [← hg1] at e1
    have E1 : ∀ c k, ¬ ((c = 0 ∧ (k = 15 ∨ k = 17 ∨ k = 18)) ∨ c = 43 ∨ (45 ≤ c ∧ c ≤ 51) ∨ (c = 76 ∧ k = 6)) → eqc g g1 c k := fun c k q => by
      rw [hg1]
      exact eqc_tr (eqpi (by omega)) (eqc_tr (W c k (by omega)) (eqc_tr (eqpi (by omega)) (eqc_tr (eqpi (by omega)) (eqpi (by omega)))))
    have ec : f_X10_orders sh g = some (g1, -6) := by
      unfold f_X10_orders
      rw [gb_let_s, r1, gb_bd_s, gb_let_s]
      simp only []
      rw [if_neg (by rw [pi_e]; exact i17 (by omega)), e1, gb_bd_s]
    have L := ordt_m (sh := sh) (B := g.1 44) (g := g1) hn ⟨(E1 77 13 (by omega)).1.trans t2, fun j hj => (E1 86 j (by omega)).1.trans (t3 j hj).1.symm⟩ (mvC_fr hC fun c k q => E1 c k (by omega))
    rw [ho] at L
    obtain ⟨r', l1, l2, l3, l4, l5⟩ := L
    have e2 : f_X11_orders sh g1 = some (gb_pi (gb_pi r' 77 1 (-6)) 78 6 (r'.1 78 6 + 1), -6) := by
      rw [l1]
      unfold ordK
      rw [if_neg (by rw [l3.1]; decide), te_n 6 (by omega) rfl (by decide), gb_bd_s]
    refine ⟨_, _, ec, e2, rfl, ?_⟩
    obtain ⟨o, ho2⟩ : ∃ x, x = gb_pi (gb_pi r' 77 1 (-6)) 78 6 (r'.1 78 6 + 1) := ⟨_, rfl⟩
    have E2 : ∀ c k, ¬ ((c = 77 ∧ (k = 0 ∨ k = 1 ∨ k = 51)) ∨ Wt c k ∨ (c = 78 ∧ k = 6)) → eqc g1 o c k := fun c k q => by
      rw [ho2]
      exact eqc_tr (eqpi (by omega)) (eqc_tr (eqpi (by omega)) (eqc_tr (l2 c k (fun z => q (Or.inr (Or.inl z)))) (eqc_tr (eqpi (by omega)) (eqpi (by omega)))))
    have E : ∀ c k, ¬ ((c = 0 ∧ (k = 15 ∨ k = 17 ∨ k = 18)) ∨ c = 43 ∨ (45 ≤ c ∧ c ≤ 51) ∨ (c = 76 ∧ k = 6)) → ¬ ((c = 77 ∧ (k = 0 ∨ k = 1 ∨ k = 51)) ∨ (c = 77 ∧ 13 ≤ k ∧ k ≤ 30) ∨ (87 ≤ c ∧ c ≤ 91) ∨ c = 103 ∨ (c = 78 ∧ k = 6)) → eqc g o c k := fun c k q1 q2 => eqc_tr (E1 c k q1) (E2 c k (by unfold Wt; omega))
    have C2 : ∀ c k, c < 77 → o.1 c k = g1.1 c k := fun c k q => (E2 c k (by unfold Wt; omega)).1
    show gb_I3 sh (gb_pi (gb_pi r' 77 1 (-6)) 78 6 (r'.1 78 6 + 1))
    rw [← ho2]
    refine ⟨gI_re hI (fun c k q => E c k (by omega) (by omega)) ?_ ⟨?_, ?_, ?_, ?_⟩ (iR_up (k0 := 6) hR ?_ ?_ (by omega) fun k hk => ⟨(E 76 k (by omega) (by omega)).1, (E 78 k (by omega) (by omega)).1⟩) (iT_0 ?_ ?_), ?_, ?_⟩
    · rw [ho2]; exact (pi_n (by omega)).trans ((pi_n (by omega)).trans l4)
    · rw [C2 0 15 (by omega), hg1, pi_n (by omega), pi_n (by omega), pi_e, ho2]
      exact ((pi_n (by omega)).trans ((pi_n (by omega)).trans l3.2)).symm
    · exact (E 0 16 (by omega) (by omega)).1.trans (hM.2.1.trans (E 77 11 (by omega) (by omega)).1.symm)
    · rw [C2 0 17 (by omega), hg1, pi_n (by omega), pi_n (by omega), pi_n (by omega), (W 0 17 (by omega)).1, pi_e, ho2, pi_n (by omega), pi_n (by omega), (l2 77 51 (by unfold Wt; omega)).1, pi_e]
    · rw [C2 0 18 (by omega), hg1, pi_n (by omega), pi_e, ho2]
      exact ((pi_n (by omega)).trans pi_e).symm
    · rw [C2 76 6 (by omega), hg1, pi_e, pi_n (by omega), (W 76 6 (by omega)).1, pi_n (by omega)]
    · rw [ho2, pi_e, (l2 78 6 (by unfold Wt; omega)).1, pi_n (by omega), pi_n (by omega), (E1 78 6 (by omega)).1]
    · rw [C2 43 1 (by omega), hg1, pi_n (by omega), pi_n (by omega), pi_n (by omega)]
      exact r2
    · rw [ho2]; exact (pi_n (by omega)).trans ((pi_n (by omega)).trans l5)
    · rw [C2 51 0 (by omega), hg1, pi_n (by omega), pi_n (by omega), pi_n (by omega), r3, pi_n (by omega)]
      exact h51
    · rw [(E 75 3 (by omega) (by omega)).1]; exact h75
  | inr x =>
    obtain ⟨cs, φ⟩ := x
    rw [ho] at rd
    obtain ⟨r, c, r1, r2, r3, r4, r5, r6, r7, r8, r9, r10⟩ := rd
    have A := ordC (sh := sh) hL (fun k a hk hq => hF 6 k a (by omega) hk hq) h51 h75 hc hh hσ r1 r2 r3 r4 r5 r6 r7 r8 r9 r10
    have hF' : ∀ o : gb_G, (∀ k, k < 6 → o.2.2 6 k = g.2.2 6 k ∧ o.2.2 12 k = g.2.2 6 k) → gb_Fr Wc g o → ∀ o2 : gb_G, gb_Fr Wq o o2 → iF sh o2 := fun o p Fo o2 F2 b k a hb hk hq => by
      have z := (F2 b k (by unfold Wq; omega)).2.2
      rw [z] at hq
      by_cases b6 : b = 6
      · subst b6; rw [(p k hk).1] at hq; exact hF 6 k a (by omega) hk hq
      · by_cases b12 : b = 12
        · subst b12; rw [(p k hk).2] at hq; exact hF 6 k a (by omega) hk hq
        · rw [(Fo b k (by unfold Wc; omega)).2.2] at hq
          exact hF b k a hb hk hq
    cases hr : rnO cs 0 (β, H, 0, -1) with
    | inl j =>
      rw [hr] at A
      obtain ⟨o, a1, a2, a3, a4, a5, a6, a7, a8, a9, a10, a11, a12⟩ := A
      have M : ∀ a k, 77 ≤ a → eqc g o a k := fun a k q => a12 a k (by unfold Wc; omega)
      have Bq := ordR (sh := sh) (g := o) (B := g.1 44) (β := β) (H := H) hn ⟨(M 77 13 (by omega)).1.trans t2, fun j hj => (M 86 j (by omega)).1.trans (t3 j hj).1.symm⟩ (mvC_fr hC fun a k q => M a k (by omega)) ho r10 r5 (mvB_fr hm hw fun k _ => (M 79 k (by omega)).1) (mvH_fr hwH.1 hhm fun a k q => M a k (by omega)) hσ
      rw [hr] at Bq
      obtain ⟨o2, b1, b2, b3, b4, b5, b6, b7, b8, b9, b10⟩ := Bq
      have K : ∀ a k, a < 77 ∨ 105 ≤ a → eqc o o2 a k := fun a k q => b10 a k (by unfold Wq; omega)
      have E : ∀ a k, ¬ Wc a k → ¬ Wq a k → eqc g o2 a k := fun a k q1 q2 => eqc_tr (a12 a k q1) (b10 a k q2)
      have hcc : cvB sh o2 1 β := cvB_fr a2 fun a k q => K a k (by omega)
      refine ⟨_, _, a1, b1, rfl, ⟨⟨hS, h105⟩, ⟨mvC_fr hC fun a k q => E a k (by unfold Wc; omega) (by unfold Wq; omega), b8⟩, hF' o a11 a12 o2 b10, ⟨?_, ?_, ?_, ?_⟩, iR_up (k0 := 3) hR ?_ ?_ (by omega) fun k hk => ⟨(E 76 k (by unfold Wc; omega) (by unfold Wq; omega)).1, (E 78 k (by unfold Wc; omega) (by unfold Wq; omega)).1⟩, iT_0 ((K 43 1 (by omega)).1.trans a8) b9, iD_fr hD fun a k q => E a k (by unfold Wc; omega) (by unfold Wq; omega), iI_fr hII fun a k q => E a k (by unfold Wc; omega) (by unfold Wq; omega), β, ⟨hw, hcc, b2⟩, of_U hw b2 (cvH_fr a3 fun a k q => K a k (by omega)) b3 hwH⟩, ?_, ?_⟩
      · rw [(K 0 15 (by omega)).1, a4, b7]
      · exact (E 0 16 (by unfold Wc; omega) (by unfold Wq; omega)).1.trans (hM.2.1.trans (E 77 11 (by unfold Wc; omega) (by unfold Wq; omega)).1.symm)
      · rw [(K 0 17 (by omega)).1, a5, b4]
      · rw [(K 0 18 (by omega)).1, a6, b5]
      · rw [(K 76 3 (by omega)).1, a7]
      · rw [b6, (M 78 3 (by omega)).1]
      · rw [(K 51 0 (by omega)).1]; exact a9
      · rw [(K 75 3 (by omega)).1]; exact a10
    | inr σ' =>
      rw [hr] at A
      obtain ⟨v1, v2⟩ := rn_w (φ := φ) (β0 := β) cs 0 (β, H, 0, -1) r10 hσ kpB.rf
      obtain ⟨u1, u2, u3⟩ := v2 σ' hr
      obtain ⟨o, a1, a2, a3, a4, a5, a6, a7, a8, a9, a10, a11, a12⟩ := A
      have M : ∀ a k, 77 ≤ a → eqc g o a k := fun a k q => a12 a k (by unfold Wc; omega)
      have Bq := ordR (sh := sh) (g := o) (B := g.1 44) (β := β) (H := H) hn ⟨(M 77 13 (by omega)).1.trans t2, fun j hj => (M 86 j (by omega)).1.trans (t3 j hj).1.symm⟩ (mvC_fr hC fun a k q => M a k (by omega)) ho r10 r5 (mvB_fr hm hw fun k _ => (M 79 k (by omega)).1) (mvH_fr hwH.1 hhm fun a k q => M a k (by omega)) hσ
      rw [hr] at Bq
      obtain ⟨o2, b1, b2, b3, b4, b5, b6, b7, b8, b9, b10⟩ := Bq
      have K : ∀ a k, a < 77 ∨ 105 ≤ a → eqc o o2 a k := fun a k q => b10 a k (by unfold Wq; omega)
      have E : ∀ a k, ¬ Wc a k → ¬ Wq a k → eqc g o2 a k := fun a k q1 q2 => eqc_tr (a12 a k q1) (b10 a k q2)
      have hcc : cvB sh o2 1 σ'.1 := cvB_fr a2 fun a k q => K a k (by omega)
      have hR2 : iR o2 := fun k hk => by
        by_cases z : k = 3
        · subst z
          rw [(K 76 3 (by omega)).1, a7, b6, (M 78 3 (by omega)).1]; exact hR 3 hk
        · rw [(E 76 k (by unfold Wc; omega) (by unfold Wq; omega)).1, (E 78 k (by unfold Wc; omega) (by unfold Wq; omega)).1]; exact hR k hk
      refine ⟨_, _, a1, b1, rfl, ⟨⟨hS, h105⟩, ⟨mvC_fr hC fun a k q => E a k (by unfold Wc; omega) (by unfold Wq; omega), b8⟩, hF' o a11 a12 o2 b10, ⟨?_, ?_, ?_, ?_⟩, hR2, iT_0 ((K 43 1 (by omega)).1.trans a8) b9, iD_fr hD fun a k q => E a k (by unfold Wc; omega) (by unfold Wq; omega), iI_fr hII fun a k q => E a k (by unfold Wc; omega) (by unfold Wq; omega), σ'.1, ⟨u1.1, hcc, b2⟩, of_U u1.1 b2 (cvH_fr a3 fun a k q => K a k (by omega)) b3 u1.2.1⟩, ?_, ?_⟩
      · rw [(K 0 15 (by omega)).1, a4, b7]
      · exact (E 0 16 (by unfold Wc; omega) (by unfold Wq; omega)).1.trans (hM.2.1.trans (E 77 11 (by unfold Wc; omega) (by unfold Wq; omega)).1.symm)
      · rw [(K 0 17 (by omega)).1, a5, b4]
      · rw [(K 0 18 (by omega)).1, a6, b5]
      · rw [(K 51 0 (by omega)).1]; exact a9
      · rw [(K 75 3 (by omega)).1]; exact a10
