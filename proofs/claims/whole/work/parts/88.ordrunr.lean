/-! ===== ORDERS: the reference runs one ===== -/
def MSo (g : gb_G) (σ : OS) : Prop := mvB (g.1 79) σ.1 ∧ mvH g σ.2.1 (bN σ.1) ∧ g.1 77 49 = Int32.ofNat σ.2.2.1 ∧ g.1 77 50 = σ.2.2.2 ∧ g.1 77 20 = 0
theorem so_off {sh : List gb_Sh} {g : gb_G} {x : Int32} (h : g.1 77 52 = 1) : f_X11_sumOf sh g x = some (g, -1) := by
  unfold f_X11_sumOf
  rw [if_neg (by rw [h]; decide)]
theorem so_m {sh : List gb_Sh} {g : gb_G} {w : Nat → Int32} {cd : Cd} {j : Nat} {D : Option Den} (h52 : g.1 77 52 = 0) (hj : j + 1 < 96) (hcd : cd.1 ≤ 400) (h20 : g.1 77 20 = 0) (h88 : g.1 88 = cd.2.1) (h89 : g.1 89 = cd.2.2) (hp : pRb true cd (g.1 103) j D) (hW : RW true g w) (hw : okn 21 w) : ∃ g' v, f_X11_sumOf sh g (Int32.ofNat j) = some (g', v) ∧ g'.1 77 20 = 0 ∧ (evO D w = none → g'.1 77 52 = 1) ∧ ∀ x, evO D w = some x → g'.1 77 52 = 0 ∧ (¬ D = none → v = x) := by
  obtain ⟨a, e, p1, p2, p3, p4⟩ := hp
  have le := pR_le p4
  unfold f_X11_sumOf
  rw [if_pos h52, o_succ, gb_ck_s (o_in (by omega) (by omega)), gb_ck_s (o_in (by omega) (by omega)), o_cl (by omega), o_cl (by omega), p2, p3]
  cases D with
  | none =>
    have e1 : a = e := p4
    subst e1
    rw [if_pos rfl]
    exact ⟨g, -1, rfl, h20, fun z => (nomatch z), fun x _ => ⟨h52, fun z => absurd rfl z⟩⟩
  | some E =>
    obtain ⟨u1, k, u2, u3⟩ := p4
    rw [if_neg (fun z => by have := o_inj (by omega) (by omega) z; omega), gb_let_s, gb_ck_s (o_in (by omega) (by omega)), gb_ck_s (o_in (by omega) (by omega)), show (gb_pi g 77 20 1).1 103 j = Int32.ofNat a from (pi_n (by omega)).trans p2, show (gb_pi g 77 20 1).1 103 (j + 1) = Int32.ofNat e from (pi_n (by omega)).trans p3]
    obtain ⟨r, e1, s2, s3⟩ := rka (sh := sh) (g := gb_pi g 77 20 1) (ord := true) (O := cd.2.1) (A := cd.2.2) (w := w) (nw := 21) (D := E) (a := a) (e := e) (k := k) ⟨pi_e, fun i h1 h2 => ⟨(pi_n (by omega)).trans (congrFun h88 i), (pi_n (by omega)).trans (congrFun h89 i)⟩⟩ (by
      obtain ⟨q1, N, q2, q3, q4⟩ := hW
      exact ⟨q1, N, q2, (pi_n (by omega)).trans q3, fun i hi => ⟨fun z => ⟨(pi_n (by omega)).trans ((q4 i hi).1 z).1, (pi_n (by omega)).trans ((q4 i hi).1 z).2⟩, (q4 i hi).2⟩⟩) hw (by omega) (by omega) u3
    rw [e1, gb_bd_s, gb_let_s]
    have e38 : (gb_pi r 77 20 0).1 77 38 = r.1 77 38 := pi_n (by omega)
    rw [e38]
    cases hv : E w with
    | none =>
      rw [s2 hv, gb_bo, if_pos (Or.inr rfl), gb_let_s]
      refine ⟨_, _, rfl, (pi_n (by omega)).trans pi_e, fun _ => pi_e, fun x hx => ?_⟩
      have hx : E w = some x := hx
      rw [hv] at hx; cases hx
    | some v =>
      obtain ⟨s4, s5⟩ := s3 v hv
      rw [s4, gb_bo, if_pos (Or.inl rfl), gb_let_s]
      refine ⟨_, _, rfl, (pi_n (by omega)).trans pi_e, fun hx => ?_, fun x hx => ⟨pi_e, fun _ => ?_⟩⟩
      · have hx : E w = none := hx
        rw [hv] at hx; cases hx
      · have hx : E w = some x := hx
        rw [hv] at hx; cases hx
        show (r.2.1 77 39).toInt32 = _
        rw [s5, Int32.toInt32_toInt64]
theorem RW_fr2 {g g' : gb_G} {w : Nat → Int32} (h : RW true g w) (e : ∀ c k, c = 79 ∨ c = 96 → eqc g g' c k) : RW true g' w := by
  obtain ⟨q1, N, q2, q3, q4⟩ := h
  exact ⟨fun j hj => (e 96 _ (by omega)).2.1.trans (q1 j hj), N, q2, (e 79 _ (by omega)).1.trans q3, fun i hi => ⟨fun z => ⟨(e 79 _ (by omega)).1.trans ((q4 i hi).1 z).1, (e 79 _ (by omega)).1.trans ((q4 i hi).1 z).2⟩, (q4 i hi).2⟩⟩
def RM2 (g : gb_G) (β : ms_B) (R : Option (gb_G × Int32)) : Option OS → Prop
  | none => ∃ g', R = some (g', -3) ∧ mvB (g'.1 79) β ∧ (∀ k, 432 ≤ k → g'.1 82 k = g.1 82 k) ∧ g'.1 77 20 = 0
  | some σ' => ∃ g', R = some (g', 0) ∧ MSo g' σ' ∧ ∀ k, 432 ≤ k → g'.1 82 k = g.1 82 k
theorem RM2_up {g g1 : gb_G} {β : ms_B} {R : Option (gb_G × Int32)} {o : Option OS} (h : RM2 g1 β R o) (e : ∀ k, 432 ≤ k → g1.1 82 k = g.1 82 k) : RM2 g β R o := by
  cases o with
  | none =>
    obtain ⟨x, x1, x2, x3, x4⟩ := h
    exact ⟨x, x1, x2, fun k hk => (x3 k hk).trans (e k hk), x4⟩
  | some σ' =>
    obtain ⟨x, x1, x2, x3⟩ := h
    exact ⟨x, x1, x2, fun k hk => (x3 k hk).trans (e k hk)⟩
theorem r103 {sh : List gb_Sh} {g : gb_G} {σ : OS} {q : Cl} {i : Nat} {cd : Cd} {φ : Bool} (hi : i < 12) (hσ : wfO σ) (hd : σ.2.2.1 ≤ 1000) (hcd : cd.1 ≤ 400) (h52 : g.1 77 52 = 0) (h88 : g.1 88 = cd.2.1) (h89 : g.1 89 = cd.2.2) (hq : gM true cd (g.1 103) i q) (hwf : wfCl true φ q) (hW : RW true g (ow σ)) (h : MSo g σ) : RM2 g σ.1 (f_X11_run_103 sh g (Int32.ofNat (8 * i))) (match evO q.2.1 (ow σ) with
  | none => none
  | some x => match evO q.2.2.1 (ow σ) with
    | none => none
    | some y => nxO q.1 σ.2.2.1 σ.2.2.2 (actO q.1 x y σ.1 σ.2.1)) := by
  have hok := ow_ok hσ hd
  obtain ⟨w1, w2, w3, w4, w5, w6, w7⟩ := hwf
  obtain ⟨k0, kq, -⟩ := hq
  obtain ⟨-, kt, k1, k3⟩ : true = true ∧ g.1 103 (8 * i + 7) = Int32.ofNat q.2.2.2.1 ∧ pRb true cd (g.1 103) (8 * i + 1) q.2.1 ∧ pRb true cd (g.1 103) (8 * i + 3) q.2.2.1 := by
    rcases kq with z | z
    · exact absurd z.1 (by decide)
    · exact z
  obtain ⟨hm, hh, m1, m2, m3⟩ := h
  unfold f_X11_run_103
  rw [o_succ, show (3 : Int32) = Int32.ofNat 3 from rfl, o_add]
  obtain ⟨g1, v1, e1, a1, a2, a3⟩ := so_m (sh := sh) h52 (by omega) hcd m3 h88 h89 k1 hW hok
  have F1 := w_X11_sumOf e1
  rw [e1, gb_bd_s]
  simp only []
  have E1 : ∀ c k, ¬ (c = 77 ∧ (k = 20 ∨ k = 38 ∨ k = 39 ∨ k = 52)) → ¬ c = 97 → eqc g g1 c k := fun c k u1 u2 => F1 c k (by omega)
  cases hx : evO q.2.1 (ow σ) with
  | none =>
    have z := a2 hx
    rw [so_off z, gb_bd_s]
    simp only []
    rw [if_neg (by rw [z]; decide)]
    exact ⟨g1, rfl, mvB_fr hm hσ.1 fun k _ => (E1 79 k (by omega) (by omega)).1, fun k _ => (E1 82 k (by omega) (by omega)).1, a1⟩
  | some x =>
    obtain ⟨z, hv1⟩ := a3 x hx
    obtain ⟨g2, v2, e2, b1, b2, b3⟩ := so_m (sh := sh) (g := g1) (w := ow σ) (cd := cd) (D := q.2.2.1) (j := 8 * i + 3) z (by omega) hcd a1 ((funext fun k => (E1 88 k (by omega) (by omega)).1).trans h88) ((funext fun k => (E1 89 k (by omega) (by omega)).1).trans h89) (pRb_lo k3 lowR_rf (Nat.le_refl _) (E1 103 _ (by omega) (by omega)).1 (E1 103 _ (by omega) (by omega)).1) (RW_fr2 hW fun c k u => E1 c k (by omega) (by omega)) hok
    have F2 := w_X11_sumOf e2
    have E2 : ∀ c k, ¬ (c = 77 ∧ (k = 20 ∨ k = 38 ∨ k = 39 ∨ k = 52)) → ¬ c = 97 → eqc g g2 c k := fun c k u1 u2 => eqc_tr (E1 c k u1 u2) (F2 c k (by omega))
    rw [e2, gb_bd_s]
    simp only []
    have hm2 : mvB (g2.1 79) σ.1 := mvB_fr hm hσ.1 fun k _ => (E2 79 k (by omega) (by omega)).1
    cases hy : evO q.2.2.1 (ow σ) with
    | none =>
      rw [if_neg (by rw [b2 hy]; decide)]
      exact ⟨g2, rfl, hm2, fun k _ => (E2 82 k (by omega) (by omega)).1, b1⟩
    | some y =>
      obtain ⟨z2, hv2⟩ := b3 y hy
      have k49 : g2.1 103 (8 * i) = Int32.ofNat q.1 := (E2 103 _ (by omega) (by omega)).1.trans k0
      rw [if_pos z2, gb_ck_s (o_in (by omega) (by omega)), o_cl (by omega), k49]
      have hN := hσ.2.1.1
      have hh2 : mvH g2 σ.2.1 (bN σ.1) := mvH_fr hN hh fun c k u => E2 c k (by omega) (by omega)
      have A := act_m (sh := sh) (g := g2) (k := q.1) (x := x) (y := y) (x' := v1) (y' := v2) w1 hσ.1 hm2 hh2 hN b1 (fun n3 => hv1 fun z => n3 (w2.1 z)) (fun n2 => hv2 fun z => by
        obtain ⟨D, hD⟩ := w3.2 ⟨rfl, n2⟩
        rw [hD] at z; cases z)
      show RM2 g σ.1 _ (nxO q.1 σ.2.2.1 σ.2.2.2 (actO q.1 x y σ.1 σ.2.1))
      cases ha : actO q.1 x y σ.1 σ.2.1 with
      | none =>
        rw [ha] at A
        obtain ⟨v, ev, hv⟩ := A
        rw [ev, gb_bd_s]
        simp only []
        rw [if_neg (by rw [Int32.le_iff_toInt_le, Int32.toInt_zero]; omega)]
        exact ⟨g2, rfl, hm2, fun k _ => (E2 82 k (by omega) (by omega)).1, b1⟩
      | some r =>
        obtain ⟨β', H', t⟩ := r
        rw [ha] at A
        obtain ⟨o, eo, c1, c2, c3⟩ := A
        obtain ⟨d1, d2, d3, d4, s, d5⟩ := act_w w1 hσ.1 hσ.2.1 ha
        have F3 := w_X11_act eo
        have hb : bN β' = bN σ.1 := by rw [d5]; rfl
        have k49' : o.1 103 (8 * i) = Int32.ofNat q.1 := (F3 103 _ (by omega)).1.trans k49
        have l49 : o.1 77 49 = Int32.ofNat σ.2.2.1 := (F3 77 49 (by omega)).1.trans ((E2 77 49 (by omega) (by omega)).1.trans m1)
        have l50 : o.1 77 50 = σ.2.2.2 := (F3 77 50 (by omega)).1.trans ((E2 77 50 (by omega) (by omega)).1.trans m2)
        have l20 : o.1 77 20 = 0 := (F3 77 20 (by omega)).1.trans b1
        have l82 : ∀ k, 432 ≤ k → o.1 82 k = g.1 82 k := fun k hk => (c3 k hk).trans (E2 82 k (by omega) (by omega)).1
        rw [eo, gb_bd_s]
        simp only []
        rw [if_pos (by rw [Int32.le_iff_toInt_le, Int32.toInt_zero]; exact d3), gb_ck_s (o_in (by omega) (by omega)), k49']
        unfold f_X11_run_171
        have fin : ∀ u : Int32, u = (if q.1 = 2 then t else σ.2.2.2) → RM2 g σ.1 (gb_let (gb_pi o 77 50 u) (fun g21 => gb_let (gb_pi g21 77 49 ((g21.1 77 49) + 1)) (fun g22 => some (g22, 0)))) (nxO q.1 σ.2.2.1 σ.2.2.2 (some (β', H', t))) := by
          intro u hu
          rw [gb_let_s, gb_let_s, pi_n (by omega), l49, o_succ]
          refine ⟨_, rfl, ⟨mvB_fr c1 d1 fun k _ => (pi_n (by omega)).trans (pi_n (by omega)), ?_, pi_e, ?_, ?_⟩, fun k hk => (pi_n (by omega)).trans ((pi_n (by omega)).trans (l82 k hk))⟩
          · show mvH _ H' (bN β')
            rw [hb]
            exact mvH_fr (by have := d2.1; exact this) c2 fun c k u => eqc_tr (eqpi (by omega)) (eqpi (by omega))
          · exact (pi_n (by omega)).trans (pi_e.trans hu)
          · exact (pi_n (by omega)).trans ((pi_n (by omega)).trans l20)
        by_cases q2 : q.1 = 2
        · rw [if_pos (show Int32.ofNat q.1 = 2 by rw [q2]; rfl)]
          exact fin t (by rw [if_pos q2])
        · rw [if_neg (show ¬ Int32.ofNat q.1 = 2 from fun z => q2 (o_inj (j := 2) (by omega) (by omega) z)), l50]
          exact fin _ (by rw [if_neg q2])
/-- run() -/
theorem ro_m {sh : List gb_Sh} {g : gb_G} {σ : OS} {q : Cl} {i : Nat} {cd : Cd} {φ : Bool} (hi : i < 12) (hσ : wfO σ) (hd : σ.2.2.1 ≤ 1000) (hcd : cd.1 ≤ 400) (h88 : g.1 88 = cd.2.1) (h89 : g.1 89 = cd.2.2) (hq : gM true cd (g.1 103) i q) (hwf : wfCl true φ q) (h : MSo g σ) : RM2 g σ.1 (f_X11_run sh g (Int32.ofNat (8 * i))) (stO q σ) := by
  have hok := ow_ok hσ hd
  have hn := hσ.1.1
  obtain ⟨hm, hh, m1, m2, m3⟩ := h
  have hN := hσ.2.1.1
  unfold f_X11_run
  rw [gb_let_s, gb_let_s, gb_let_s]
  simp only [pk]
  generalize hg3 : gb_pj (gb_pj (gb_pj g 96 1 ((g.1 79 5).toInt64)) 96 2 ((g.1 77 49).toInt64)) 96 3 ((g.1 77 50).toInt64) = g3
  have E3 : ∀ c k, ¬ c = 96 → eqc g g3 c k := fun c k u => by
    rw [← hg3]
    exact ⟨rfl, (pj_n (by omega)).trans ((pj_n (by omega)).trans (pj_n (by omega))), rfl⟩
  have E3' : g3.1 = g.1 := by rw [← hg3]; rfl
  have n1 : g3.2.1 96 1 = (ow σ 0).toInt64 := by
    rw [← hg3, pj_n (by omega), pj_n (by omega), pj_e, show g.1 79 5 = ow σ 0 from hm.2.2.2.2.2.2.1 0 (by omega)]
  have n2 : g3.2.1 96 2 = (ow σ 1).toInt64 := by
    rw [← hg3, pj_n (by omega), pj_e, show g.1 77 49 = ow σ 1 from m1]
  have n3 : g3.2.1 96 3 = (ow σ 2).toInt64 := by
    rw [← hg3, pj_e, show g.1 77 50 = ow σ 2 from m2]
  obtain ⟨⟨g4, v4⟩, e4, hv4⟩ := pn_m (sh := sh) (g := g3) hσ.1 (by rw [E3']; exact hm) (by rw [E3']; exact m3)
  have F4 := w_X11_pensionNow e4
  have hv4 : v4 = PN σ.1 := hv4
  subst hv4
  rw [e4, gb_bd_s, gb_let_s]
  simp only []
  have E4 : ∀ c k, ¬ (c = 77 ∧ (k = 34 ∨ (38 ≤ k ∧ k ≤ 42))) → ¬ c = 95 → ¬ c = 97 → ¬ c = 96 → eqc g (gb_pj g4 96 4 ((PN σ.1).toInt64)) c k := fun c k u1 u2 u3 u4 => eqc_tr (eqc_tr (E3 c k u4) (F4 c k (by omega))) ⟨rfl, pj_n (by omega), rfl⟩
  have hm4 : mvB ((gb_pj g4 96 4 ((PN σ.1).toInt64)).1 79) σ.1 := mvB_fr hm hσ.1 fun k _ => (E4 79 k (by omega) (by omega) (by omega) (by omega)).1
  rw [lo hσ.1 hm4, gb_bd_s, gb_let_s, gb_let_s]
  simp only []
  generalize hg10 : gb_pi (gb_pj (gb_pj g4 96 4 ((PN σ.1).toInt64)) 96 5 ((ms_sum (fun i => bT σ.1 i 5) (bN σ.1)).toInt64)) 77 52 0 = g10
  have E : ∀ c k, ¬ (c = 77 ∧ (k = 34 ∨ (38 ≤ k ∧ k ≤ 42) ∨ k = 52)) → ¬ c = 95 → ¬ c = 97 → ¬ c = 96 → eqc g g10 c k := fun c k u1 u2 u3 u4 => by
    rw [← hg10]
    refine eqc_tr (E4 c k (by omega) u2 u3 u4) ⟨?_, ?_, rfl⟩
    · rw [pi_n (by omega)]; rfl
    · show (gb_pj (gb_pj g4 96 4 ((PN σ.1).toInt64)) 96 5 _).2.1 c k = _
      exact pj_n (by omega)
  have c52 : g10.1 77 52 = 0 := by rw [← hg10, pi_e]
  have hm10 : mvB (g10.1 79) σ.1 := mvB_fr hm hσ.1 fun k _ => (E 79 k (by omega) (by omega) (by omega) (by omega)).1
  have n96 : ∀ j, j < 5 → g10.2.1 96 (j + 1) = (ow σ j).toInt64 := fun j hj => by
    rw [← hg10]
    show (gb_pj (gb_pj g4 96 4 ((PN σ.1).toInt64)) 96 5 ((ms_sum (fun i => bT σ.1 i 5) (bN σ.1)).toInt64)).2.1 96 (j + 1) = _
    by_cases j4 : j = 4
    · subst j4; exact pj_e
    rw [pj_n (by omega)]
    by_cases j3 : j = 3
    · subst j3; exact pj_e
    rw [pj_n (by omega), (F4 96 (j + 1) (by omega)).2.1]
    have h012 : j = 0 ∨ j = 1 ∨ j = 2 := by omega
    rcases h012 with rfl | rfl | rfl
    · exact n1
    · exact n2
    · exact n3
  have hW : RW true g10 (ow σ) := by
    refine ⟨n96, bN σ.1, hn, hm10.1, fun j hj => ⟨fun z => ?_, fun z => ?_⟩⟩
    · rw [ow_now hj, ow_we, if_pos z, if_pos z]
      exact ⟨(hm10.2.1 j z).2.1, (hm10.2.1 j z).2.2.1⟩
    · rw [ow_now hj, ow_we, if_neg z, if_neg z]
      exact ⟨rfl, rfl⟩
  have hM10 : MSo g10 σ := ⟨hm10, mvH_fr hN hh fun c k u => E c k (by omega) (by omega) (by omega) (by omega), (E 77 49 (by omega) (by omega) (by omega) (by omega)).1.trans m1, (E 77 50 (by omega) (by omega) (by omega) (by omega)).1.trans m2, (E 77 20 (by omega) (by omega) (by omega) (by omega)).1.trans m3⟩
  have h88' : g10.1 88 = cd.2.1 := (funext fun k => (E 88 k (by omega) (by omega) (by omega) (by omega)).1).trans h88
  have h89' : g10.1 89 = cd.2.2 := (funext fun k => (E 89 k (by omega) (by omega) (by omega) (by omega)).1).trans h89
  have e103 : g10.1 103 = g.1 103 := funext fun k => (E 103 k (by omega) (by omega) (by omega) (by omega)).1
  have hq' : gM true cd (g10.1 103) i q := by rw [e103]; exact hq
  have e82 : ∀ k, g10.1 82 k = g.1 82 k := fun k => (E 82 k (by omega) (by omega) (by omega) (by omega)).1
  refine RM2_up (g1 := g10) ?_ (fun k _ => e82 k)
  obtain ⟨a5, e5, z1, z2, z3, z4⟩ := hq'.2.2
  have le5 := pR_le z4
  rw [show (5 : Int32) = Int32.ofNat 5 from rfl, show (6 : Int32) = Int32.ofNat 6 from rfl, o_add, o_add, gb_ck_s (o_in (by omega) (by omega)), gb_ck_s (o_in (by omega) (by omega)), o_cl (by omega), o_cl (by omega), z2, show g10.1 103 (8 * i + 6) = Int32.ofNat e5 from z3]
  unfold stO
  cases hD : q.2.2.2.2 with
  | none =>
    rw [hD] at z4
    have : a5 = e5 := z4
    subst this
    rw [if_pos (Int32.le_refl _), if_pos (show evO none (ow σ) = some 1 from rfl)]
    exact r103 hi hσ hd hcd c52 h88' h89' hq' hwf hW hM10
  | some E5 =>
    have z4' := z4
    rw [hD] at z4'
    rw [if_neg (by rw [o_le (by omega) (by omega)]; have := z4'.1; omega)]
    obtain ⟨g1, v1, s1, s2, s3, s4⟩ := so_m (sh := sh) (j := 8 * i + 5) (D := some E5) c52 (by omega) hcd hM10.2.2.2.2 h88' h89' ⟨a5, e5, z1, z2, z3, z4'⟩ hW hok
    have F1 := w_X11_sumOf s1
    have E1 : ∀ c k, ¬ (c = 77 ∧ (k = 20 ∨ k = 38 ∨ k = 39 ∨ k = 52)) → ¬ c = 97 → eqc g10 g1 c k := fun c k u1 u2 => F1 c k (by omega)
    rw [s1, gb_bd_s]
    simp only []
    have hM1 : MSo g1 σ := ⟨mvB_fr hm10 hσ.1 fun k _ => (E1 79 k (by omega) (by omega)).1, mvH_fr hN hM10.2.1 fun c k u => E1 c k (by omega) (by omega), (E1 77 49 (by omega) (by omega)).1.trans hM10.2.2.1, (E1 77 50 (by omega) (by omega)).1.trans hM10.2.2.2.1, s2⟩
    have k1 : ∀ k, 432 ≤ k → g1.1 82 k = g10.1 82 k := fun k _ => (E1 82 k (by omega) (by omega)).1
    have hv : evO (some E5) (ow σ) = E5 (ow σ) := rfl
    cases hw5 : E5 (ow σ) with
    | none =>
      rw [if_neg (by rw [s3 hw5]; decide), hv, hw5, if_neg (by decide)]
      exact ⟨g1, rfl, hM1, k1⟩
    | some v =>
      obtain ⟨x1, x2⟩ := s4 v hw5
      have x2 := x2 (fun z => (nomatch z))
      subst x2
      rw [if_pos x1, hv, hw5]
      rcases (hwf.2.2.2.2.2.2 E5 hD).1 (ow σ) hok _ hw5 with z | z
      · subst z
        rw [if_pos rfl, if_neg (by decide)]
        exact ⟨g1, rfl, hM1, k1⟩
      · subst z
        rw [if_neg (by decide), if_pos rfl]
        have e103' : g1.1 103 = g10.1 103 := funext fun k => (E1 103 k (by omega) (by omega)).1
        have R := r103 (sh := sh) (g := g1) hi hσ hd hcd x1 ((funext fun k => (E1 88 k (by omega) (by omega)).1).trans h88') ((funext fun k => (E1 89 k (by omega) (by omega)).1).trans h89') (by rw [e103']; exact hq') hwf (RW_fr2 hW fun c k u => E1 c k (by omega) (by omega)) hM1
        exact RM2_up R k1
