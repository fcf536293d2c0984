/-! ===== CLAUSES of ORDERS, in the reference ===== -/
theorem so_le {n t : Nat} {B : Nat → Int32} : so n B t ≤ 3 := by
  unfold so
  have := ky_2 (B t)
  split
  · split <;> omega
  · omega
/-- number(1, 20) -/
theorem n20_t {sh : List gb_Sh} {n s l : Nat} {B : Nat → Int32} {ord : Bool} {g : gb_G} {cd : Cd} (hn : n ≤ 400) (h : RY n B ord g s l cd) (v : kd n B s = 2 ∧ 1 ≤ NV n B s ∧ NV n B s ≤ 20) : ∃ o, f_X11_number sh g 1 20 = some (o, Int32.ofNat (NV n B s)) ∧ RY n B ord o (tn n B s) l cd ∧ ∀ c k, ¬ (c = 77 ∧ 14 ≤ k ∧ k ≤ 17) → eqc g o c k := by
  obtain ⟨m1, m2, m3, m4, m5, m6⟩ := h.1
  obtain ⟨o, e1, e2, e3⟩ := must_t (sh := sh) (x := 1) hn h.1 h.2.1 (by decide)
  have N := nx_k e3
  refine ⟨o, ?_, RY_fr h e2 (tn_b m2).1 fun c k q => N c k (by omega), N⟩
  unfold f_X11_number f_X11_number_33
  have i7 : f_X11_in sh g (Int32.ofNat (NV n B s)).toInt64 1 20 = some (g, 1) := in_t (lo := 1) (hi := 20) (by rw [im, o_int (by omega)]; omega) rfl rfl
  rw [n64 (by omega)] at i7
  rw [m5, so_2.2 v.1, if_pos (show Int32.ofNat 2 = 2 from rfl), m6, wo_2 v.1, i7, bt]
  simp only []
  rw [e1, gb_bd_s, i32]
theorem n20_f {sh : List gb_Sh} {n s l : Nat} {B : Nat → Int32} {ord : Bool} {g : gb_G} {cd : Cd} (h : RY n B ord g s l cd) (v : ¬ (kd n B s = 2 ∧ 1 ≤ NV n B s ∧ NV n B s ≤ 20)) : ∃ x, f_X11_number sh g 1 20 = some (gb_pi (gb_pi g 77 19 1) 77 18 (Int32.ofNat s), x) := by
  obtain ⟨m1, m2, m3, m4, m5, m6⟩ := h.1
  refine ⟨(wo n B s).toInt32, ?_⟩
  unfold f_X11_number f_X11_number_33
  by_cases v1 : kd n B s = 2
  · have v2 : ¬ (1 ≤ NV n B s ∧ NV n B s ≤ 20) := fun z => v ⟨v1, z⟩
    have hb := NV_b (n := n) (B := B) (t := s)
    have i7 : f_X11_in sh g (Int32.ofNat (NV n B s)).toInt64 1 20 = some (g, 0) := in_f (lo := 1) (hi := 20) (by rw [im, o_int (by omega)]; omega) rfl rfl
    rw [n64 (by omega)] at i7
    rw [m5, so_2.2 v1, if_pos (show Int32.ofNat 2 = 2 from rfl), m6, wo_2 v1, i7, bf]
    simp only []
    rw [must_f h.1 h.2.1, gb_bd_s]
  · have hb := so_le (n := n) (B := B) (t := s)
    rw [m5, if_neg (show ¬ Int32.ofNat (so n B s) = 2 from fun z => v1 (so_2.1 (o_inj (j := 2) (by omega) (by omega) z))), must_f h.1 h.2.1, gb_bd_s, m6]
theorem rs22 {sh : List gb_Sh} {g : gb_G} {j : Nat} (hj : j + 1 < 96) : f_X11_readSum_22 sh g (Int32.ofNat j) = some (gb_pi g 103 (j + 1) (g.1 77 23)) := by
  unfold f_X11_readSum_22
  rw [o_succ, gb_ck_s (o_in (by omega) (by omega)), o_cl (by omega), gb_let_s]
theorem rsb {sh : List gb_Sh} {g : gb_G} {j p : Nat} (hj : j + 1 < 96) (h : RB g p) : ∃ r, f_X11_readSum sh g (Int32.ofNat j) = some r ∧ RB r p := by
  unfold f_X11_readSum
  rw [gb_ck_s (o_in (by omega) (by omega)), o_cl (by omega), gb_let_s, if_neg (by rw [pi_n (by omega), h.1]; decide), rs22 hj]
  exact ⟨_, rfl, (pi_n (by omega)).trans ((pi_n (by omega)).trans h.1), (pi_n (by omega)).trans ((pi_n (by omega)).trans h.2)⟩
def RM1 (n : Nat) (B : Nat → Int32) (g : gb_G) (cd : Cd) (j : Nat) (R : Option gb_G) : Ou → Prop
  | .inl p => ∃ r, R = some r ∧ RB r p
  | .inr (s', l', D, _) => ∃ (r : gb_G) (cd' : Cd), R = some r ∧ RY n B true r s' l' cd' ∧ lowR cd cd' ∧ cd.1 ≤ cd'.1 ∧ pRb true cd' (r.1 103) j (some D) ∧ r.1 77 21 = g.1 77 21 ∧ ∀ k, ¬ (k = j ∨ k = j + 1) → r.1 103 k = g.1 103 k
theorem rsm {sh : List gb_Sh} {n s l j : Nat} {B : Nat → Int32} {g : gb_G} {cd : Cd} (hn : n ≤ 400) (hj : j + 1 < 96) (h : RY n B true g s l cd) : RM1 n B g cd j (f_X11_readSum sh g (Int32.ofNat j)) (spO n B true 60 0 0 s l) := by
  have h23 := h.2.2.2.2.1.1
  unfold f_X11_readSum
  rw [gb_ck_s (o_in (by omega) (by omega)), o_cl (by omega), gb_let_s, h23]
  have h' : RY n B true (gb_pi g 103 j (Int32.ofNat cd.1)) s l cd := RY_fr h (mS_e h.1 fun c k q => eqpi (by omega)) (Nat.le_refl _) fun c k q => eqpi (by omega)
  rw [if_pos h'.2.1]
  have r := exS (sh := sh) hn h'
  cases ho : spO n B true 60 0 0 s l with
  | inl p =>
    rw [ho] at r
    obtain ⟨r, r1, r2⟩ := r
    rw [r1, gb_bd_s, rs22 hj]
    exact ⟨_, rfl, (pi_n (by omega)).trans r2.1, (pi_n (by omega)).trans r2.2⟩
  | inr x =>
    obtain ⟨s', l', D, φ'⟩ := x
    rw [ho] at r
    obtain ⟨r, cd', r1, r2, r3, r4, r5, r6⟩ := r
    have le2 := pR_le r4
    rw [r1, gb_bd_s, rs22 hj, r2.2.2.2.2.1.1]
    refine ⟨_, cd', rfl, RY_fr r2 (mS_e r2.1 fun c k q => eqpi (by omega)) (Nat.le_refl _) (fun c k q => eqpi (by omega)), r3, le2, ⟨cd.1, cd'.1, Nat.le_refl _, (pi_n (by omega)).trans ((r6 _).2.trans pi_e), pi_e, r4⟩, (pi_n (by omega)).trans (r5.trans (pi_n (by omega))), fun k hk => (pi_n (by omega)).trans ((r6 _).2.trans (pi_n (by omega)))⟩
theorem o241 {sh : List gb_Sh} {g : gb_G} {m : Nat} (hm : m < 12) : f_X11_readOrder_241 sh g (Int32.ofNat (8 * m)) = some (gb_pi g 103 (8 * m + 6) (g.1 77 23)) := by
  unfold f_X11_readOrder_241
  rw [show (6 : Int32) = Int32.ofNat 6 from rfl, o_add, gb_ck_s (o_in (by omega) (by omega)), o_cl (by omega), gb_let_s]
theorem o203b {sh : List gb_Sh} {g : gb_G} {m p : Nat} (hm : m < 12) (h : RB g p) : ∃ r, f_X11_readOrder_203 sh g (Int32.ofNat (8 * m)) = some r ∧ RB r p := by
  unfold f_X11_readOrder_203
  rw [show (5 : Int32) = Int32.ofNat 5 from rfl, o_add, gb_ck_s (o_in (by omega) (by omega)), o_cl (by omega), gb_let_s, if_neg (by rw [pi_n (by omega), h.1]; decide), o241 hm]
  exact ⟨_, rfl, (pi_n (by omega)).trans ((pi_n (by omega)).trans h.1), (pi_n (by omega)).trans ((pi_n (by omega)).trans h.2)⟩
theorem o155b {sh : List gb_Sh} {g : gb_G} {m p : Nat} (hm : m < 12) (h : RB g p) : ∃ r, f_X11_readOrder_155 sh g (Int32.ofNat (8 * m)) = some r ∧ RB r p := by
  unfold f_X11_readOrder_155
  rw [show (7 : Int32) = Int32.ofNat 7 from rfl, o_add, gb_ck_s (o_in (by omega) (by omega)), o_cl (by omega), gb_let_s, if_neg (by rw [pi_n (by omega), h.1]; decide)]
  exact o203b hm ⟨(pi_n (by omega)).trans h.1, (pi_n (by omega)).trans h.2⟩
theorem o125b {sh : List gb_Sh} {g : gb_G} {m p : Nat} {y1 : Int32} (hm : m < 12) (h : RB g p) : ∃ r, f_X11_readOrder_125 sh g y1 (Int32.ofNat (8 * m)) = some r ∧ RB r p := by
  unfold f_X11_readOrder_125 f_X11_readOrder_148
  split
  · rw [if_neg (by rw [h.1]; decide), show (3 : Int32) = Int32.ofNat 3 from rfl, o_add]
    obtain ⟨r, e, h2⟩ := rsb (sh := sh) (j := 8 * m + 3) (by omega) h
    rw [e, gb_bd_s]
    exact o155b hm h2
  · exact o155b hm h
theorem o203 {sh : List gb_Sh} {n s l m k t : Nat} {B : Nat → Int32} {φ : Bool} {g : gb_G} {cd : Cd} {D1 D2 : Option Den} (hn : n ≤ 400) (hm : m < 12) (h : RY n B true g s l cd) (h21 : g.1 77 21 = Int32.ofNat (m + 1)) (hk : g.1 103 (8 * m) = Int32.ofNat k) (ht : g.1 103 (8 * m + 7) = Int32.ofNat t) (p1 : pRb true cd (g.1 103) (8 * m + 1) D1) (p2 : pRb true cd (g.1 103) (8 * m + 3) D2) : MO n B true g m cd (f_X11_readOrder_203 sh g (Int32.ofNat (8 * m))) (cl4 n B true k D1 D2 t φ s l) := by
  have h23 := h.2.2.2.2.1.1
  unfold f_X11_readOrder_203 cl4
  rw [show (5 : Int32) = Int32.ofNat 5 from rfl, o_add, gb_ck_s (o_in (by omega) (by omega)), o_cl (by omega), gb_let_s, h23]
  have E : ∀ c j, ¬ (c = 103 ∧ j = 8 * m + 5) → eqc g (gb_pi g 103 (8 * m + 5) (Int32.ofNat cd.1)) c j := fun c j q => eqpi q
  have e5 : (gb_pi g 103 (8 * m + 5) (Int32.ofNat cd.1)).1 103 (8 * m + 5) = Int32.ofNat cd.1 := pi_e
  generalize gb_pi g 103 (8 * m + 5) (Int32.ofNat cd.1) = g1 at E e5
  have h' : RY n B true g1 s l cd := RY_fr h (mS_e h.1 fun c k q => E c k (by omega)) (Nat.le_refl _) fun c k q => E c k (by omega)
  rw [if_pos h'.2.1, show (294 : Int64) = Int64.ofNat (kh 4) from rfl, kw_m hn (show 2 ≤ 4 ∧ 4 ≤ 7 by omega) h'.1, gb_bd_s]
  simp only []
  by_cases q : isK n B s 4
  · rw [if_pos q, if_pos q, if_neg (show ¬ (1 : Int32) = 0 by decide)]
    obtain ⟨o, eo, mo⟩ := next_m (sh := sh) hn h'.1
    have N := nx_k eo
    have ho1 : RY n B true o (tn n B s) l cd := RY_fr h' mo (tn_b h'.1.2.1).1 fun c k q => N c k (by omega)
    rw [eo, gb_bd_s]
    have r := exT (sh := sh) hn ho1
    cases ho : spO n B true 60 3 0 (tn n B s) l with
    | inl p =>
      rw [ho] at r
      obtain ⟨r, r1, r2⟩ := r
      rw [r1, gb_bd_s, o241 hm]
      exact ⟨_, rfl, (pi_n (by omega)).trans r2.1, (pi_n (by omega)).trans r2.2⟩
    | inr x =>
      obtain ⟨s', l', D, φ'⟩ := x
      rw [ho] at r
      obtain ⟨r, cd', r1, r2, r3, r4, r5, r6⟩ := r
      have le2 := pR_le r4
      rw [r1, gb_bd_s, o241 hm, r2.2.2.2.2.1.1]
      have K : ∀ j, ¬ (j = 8 * m + 5 ∨ j = 8 * m + 6) → (gb_pi r 103 (8 * m + 6) (Int32.ofNat cd'.1)).1 103 j = g.1 103 j := fun j z => (pi_n (by omega)).trans ((r6 j).2.trans ((N 103 j (by omega)).1.trans (E 103 j (by omega)).1))
      refine ⟨_, cd', rfl, RY_fr r2 (mS_e r2.1 fun c k q => eqpi (by omega)) (Nat.le_refl _) (fun c k q => eqpi (by omega)), r3, le2, (pi_n (by omega)).trans (r5.trans ((N 77 21 (by omega)).1.trans ((E 77 21 (by omega)).1.trans h21))), ⟨(K _ (by omega)).trans hk, Or.inr ⟨rfl, (K _ (by omega)).trans ht, pRb_lo p1 r3 le2 (K (8 * m + 1) (by omega)) (K (8 * m + 1 + 1) (by omega)), pRb_lo p2 r3 le2 (K (8 * m + 3) (by omega)) (K (8 * m + 3 + 1) (by omega))⟩, cd.1, cd'.1, Nat.le_refl _, ?_, pi_e, r4⟩, fun i hi => K i (by omega)⟩
      exact (pi_n (by omega)).trans ((r6 _).2.trans ((N 103 _ (by omega)).1.trans e5))
  · rw [if_neg q, if_neg q, if_pos rfl, o241 hm, h'.2.2.2.2.1.1]
    have K : ∀ j, ¬ (j = 8 * m + 5 ∨ j = 8 * m + 6) → (gb_pi g1 103 (8 * m + 6) (Int32.ofNat cd.1)).1 103 j = g.1 103 j := fun j z => (pi_n (by omega)).trans (E 103 j (by omega)).1
    refine ⟨_, cd, rfl, RY_fr h' (mS_e h'.1 fun c k q => eqpi (by omega)) (Nat.le_refl _) (fun c k q => eqpi (by omega)), lowR_rf, Nat.le_refl _, (pi_n (by omega)).trans ((E 77 21 (by omega)).1.trans h21), ⟨(K _ (by omega)).trans hk, Or.inr ⟨rfl, (K _ (by omega)).trans ht, pRb_lo p1 lowR_rf (Nat.le_refl _) (K (8 * m + 1) (by omega)) (K (8 * m + 1 + 1) (by omega)), pRb_lo p2 lowR_rf (Nat.le_refl _) (K (8 * m + 3) (by omega)) (K (8 * m + 3 + 1) (by omega))⟩, cd.1, cd.1, Nat.le_refl _, (pi_n (by omega)).trans e5, pi_e, rfl⟩, fun i hi => K i (by omega)⟩
theorem o155 {sh : List gb_Sh} {n s l m k : Nat} {B : Nat → Int32} {φ : Bool} {g : gb_G} {cd : Cd} {D1 D2 : Option Den} (hn : n ≤ 400) (hm : m < 12) (h : RY n B true g s l cd) (h21 : g.1 77 21 = Int32.ofNat (m + 1)) (hk : g.1 103 (8 * m) = Int32.ofNat k) (p1 : pRb true cd (g.1 103) (8 * m + 1) D1) (p2 : pRb true cd (g.1 103) (8 * m + 3) D2) : MO n B true g m cd (f_X11_readOrder_155 sh g (Int32.ofNat (8 * m))) (cl3 n B true k D1 D2 φ s l) := by
  unfold f_X11_readOrder_155
  rw [cl3_t, show (7 : Int32) = Int32.ofNat 7 from rfl, o_add, gb_ck_s (o_in (by omega) (by omega)), o_cl (by omega), gb_let_s]
  have E : ∀ c j, ¬ (c = 103 ∧ j = 8 * m + 7) → eqc g (gb_pi g 103 (8 * m + 7) 1) c j := fun c j q => eqpi q
  have e7 : (gb_pi g 103 (8 * m + 7) 1).1 103 (8 * m + 7) = Int32.ofNat 1 := pi_e
  generalize gb_pi g 103 (8 * m + 7) 1 = g1 at E e7
  have h' : RY n B true g1 s l cd := RY_fr h (mS_e h.1 fun c k q => E c k (by omega)) (Nat.le_refl _) fun c k q => E c k (by omega)
  have p1' : pRb true cd (g1.1 103) (8 * m + 1) D1 := pRb_lo p1 lowR_rf (Nat.le_refl _) (E _ _ (by omega)).1 (E _ _ (by omega)).1
  have p2' : pRb true cd (g1.1 103) (8 * m + 3) D2 := pRb_lo p2 lowR_rf (Nat.le_refl _) (E _ _ (by omega)).1 (E _ _ (by omega)).1
  rw [if_pos h'.2.1, show (21279923 : Int64) = Int64.ofNat (kh 3) from rfl, kw_m hn (show 2 ≤ 3 ∧ 3 ≤ 7 by omega) h'.1, gb_bd_s]
  simp only []
  by_cases q : isK n B s 3
  · rw [if_pos q, if_pos q, if_neg (show ¬ (1 : Int32) = 0 by decide)]
    obtain ⟨o, eo, mo⟩ := next_m (sh := sh) hn h'.1
    have N := nx_k eo
    have ho1 : RY n B true o (tn n B s) l cd := RY_fr h' mo (tn_b h'.1.2.1).1 fun c k q => N c k (by omega)
    rw [eo, gb_bd_s]
    by_cases v : kd n B (tn n B s) = 2 ∧ 1 ≤ NV n B (tn n B s) ∧ NV n B (tn n B s) ≤ 20
    · obtain ⟨o2, x1, x2, x3⟩ := n20_t (sh := sh) hn ho1 v
      rw [if_pos v, x1, gb_bd_s, gb_ck_s (o_in (by omega) (by omega)), gb_let_s]
      have G : ∀ c j, ¬ (c = 103 ∧ j = 8 * m + 7) → ¬ (c = 77 ∧ 14 ≤ j ∧ j ≤ 17) → eqc g (gb_pi o2 103 (8 * m + 7) (Int32.ofNat (NV n B (tn n B s)))) c j := fun c j z1 z2 => eqc_tr (E c j z1) (eqc_tr (N c j z2) (eqc_tr (x3 c j z2) (eqpi z1)))
      refine MO_up (o203 hn hm (RY_fr x2 (mS_e x2.1 fun c k q => eqpi (by omega)) (Nat.le_refl _) fun c k q => eqpi (by omega)) ((G _ _ (by omega) (by omega)).1.trans h21) ((G _ _ (by omega) (by omega)).1.trans hk) pi_e (pRb_lo p1 lowR_rf (Nat.le_refl _) (G _ _ (by omega) (by omega)).1 (G _ _ (by omega) (by omega)).1) (pRb_lo p2 lowR_rf (Nat.le_refl _) (G _ _ (by omega) (by omega)).1 (G _ _ (by omega) (by omega)).1)) lowR_rf (Nat.le_refl _) fun i hi => (G 103 i (by omega) (by omega)).1
    · obtain ⟨x, ex⟩ := n20_f (sh := sh) ho1 v
      rw [if_neg v, ex, gb_bd_s, gb_ck_s (o_in (by omega) (by omega)), gb_let_s]
      exact o203b hm ⟨(pi_n (by omega)).trans rbf.1, (pi_n (by omega)).trans rbf.2⟩
  · rw [if_neg q, if_neg q, if_pos rfl]
    exact MO_up (o203 hn hm h' ((E _ _ (by omega)).1.trans h21) ((E _ _ (by omega)).1.trans hk) e7 p1' p2') lowR_rf (Nat.le_refl _) fun i hi => (E 103 i (by omega)).1
/-- "by" -/
theorem o125 {sh : List gb_Sh} {n s l m k : Nat} {B : Nat → Int32} {φ : Bool} {g : gb_G} {cd : Cd} {D1 : Option Den} (hn : n ≤ 400) (hm : m < 12) (hk3 : k ≤ 3) (h : RY n B true g s l cd) (h21 : g.1 77 21 = Int32.ofNat (m + 1)) (hk : g.1 103 (8 * m) = Int32.ofNat k) (p1 : pRb true cd (g.1 103) (8 * m + 1) D1) (z3 : g.1 103 (8 * m + 3) = 0) (z4 : g.1 103 (8 * m + 4) = 0) : MO n B true g m cd (f_X11_readOrder_125 sh g (Int32.ofNat k) (Int32.ofNat (8 * m))) (cl2 n B true k D1 φ s l) := by
  unfold f_X11_readOrder_125 f_X11_readOrder_148
  by_cases q : k = 2
  · subst q
    rw [cl2_t, if_pos (show Int32.ofNat 2 = (2 : Int32) from rfl), if_pos h.2.1, show (89 : Int64) = Int64.ofNat (kh 2) from rfl, kw_m hn (show 2 ≤ 2 ∧ 2 ≤ 7 by omega) h.1, gb_bd_s]
    simp only []
    rw [show (3 : Int32) = Int32.ofNat 3 from rfl, o_add]
    by_cases q : isK n B s 2
    · rw [if_pos q, if_pos q]
      obtain ⟨o, e1, e2, e3⟩ := must_t (sh := sh) (x := 1) hn h.1 h.2.1 (by decide)
      have N := nx_k e3
      have ho1 : RY n B true o (tn n B s) l cd := RY_fr h e2 (tn_b h.1.2.1).1 fun c k q => N c k (by omega)
      rw [e1, gb_bd_s]
      have r := rsm (sh := sh) (j := 8 * m + 3) hn (by omega) ho1
      cases ho : spO n B true 60 0 0 (tn n B s) l with
      | inl p =>
        rw [ho] at r
        obtain ⟨r, r1, r2⟩ := r
        rw [r1, gb_bd_s]
        exact o155b hm r2
      | inr x =>
        obtain ⟨s', l', D, φ'⟩ := x
        rw [ho] at r
        obtain ⟨r, cd', r1, r2, r3, r4, r5, r6, r7⟩ := r
        rw [r1, gb_bd_s]
        have G : ∀ j, ¬ (j = 8 * m + 3 ∨ j = 8 * m + 4) → r.1 103 j = g.1 103 j := fun j z => (r7 j (by omega)).trans (N 103 j (by omega)).1
        exact MO_up (o155 hn hm r2 (r6.trans ((N 77 21 (by omega)).1.trans h21)) ((G _ (by omega)).trans hk) (pRb_lo p1 r3 r4 (G _ (by omega)) (G _ (by omega))) r5) r3 r4 fun i hi => G i (by omega)
    · rw [if_neg q, if_neg q, must_f h.1 h.2.1, gb_bd_s]
      obtain ⟨r, e, h2⟩ := rsb (sh := sh) (j := 8 * m + 3) (by omega) (rbf (g := g) (s := s))
      rw [e, gb_bd_s]
      exact o155b hm h2
  · rw [if_neg (show ¬ Int32.ofNat k = 2 from fun z => q (o_inj (j := 2) (by omega) (by omega) z)), cl2_n q]
    exact o155 hn hm h h21 hk p1 ⟨0, 0, Nat.zero_le _, z3, z4, rfl⟩
theorem o85 {sh : List gb_Sh} {m : Nat} {y1 : Int32} (hm : m < 12) : ∀ (d j F : Nat) (g : gb_G), j + d = 8 → d < F → (∀ k, k < j → g.1 103 (8 * m + k) = 0) → ∃ g' f', (∀ c k, ¬ (c = 103 ∧ 8 * m ≤ k) → eqc g g' c k) ∧ (∀ k, k < 8 → g'.1 103 (8 * m + k) = 0) ∧ f_X11_readOrder_85 sh F g y1 (Int32.ofNat (8 * m)) (Int32.ofNat j) = f_X11_readOrder_85 sh (f' + 1) g' y1 (Int32.ofNat (8 * m)) (Int32.ofNat 8) := by
  intro d
  induction d with
  | zero =>
    intro j F g hj hF hz
    obtain ⟨f, rfl⟩ : ∃ f, F = f + 1 := ⟨F - 1, by omega⟩
    rw [show j = 8 by omega] at hz ⊢
    exact ⟨g, f, fun c k _ => ⟨rfl, rfl, rfl⟩, hz, rfl⟩
  | succ d ih =>
    intro j F g hj hF hz
    obtain ⟨f, rfl⟩ : ∃ f, F = f + 1 := ⟨F - 1, by omega⟩
    obtain ⟨g', f', e1, e2, e3⟩ := ih (j + 1) f (gb_pi g 103 (8 * m + j) 0) (by omega) (by omega) (fun k hk => by
      by_cases z : k = j
      · subst z; exact pi_e
      · exact (pi_n (by omega)).trans (hz k (by omega)))
    refine ⟨g', f', fun c k q => eqc_tr (eqpi (by omega)) (e1 c k q), e2, ?_⟩
    rw [f_X11_readOrder_85, if_neg (by rw [show (8 : Int32) = Int32.ofNat 8 from rfl, o_le (by omega) (by omega)]; omega), o_add, gb_ck_s (o_in (by omega) (by omega)), o_cl (by omega), gb_let_s, o_succ]
    exact e3
theorem hd_o {sh : List gb_Sh} {n t : Nat} {B : Nat → Int32} {g : gb_G} (hn : n ≤ 400) (hc : mvC g) (hm : mS g n B t) : f_X11_readOrder sh g = f_X11_readOrder_4 sh (999995 + 1) g (match fW n B t 0 with | none => -1 | some k => Int32.ofNat k) (Int32.ofNat 4) := by
  unfold f_X11_readOrder
  have key := scn (g := g) (e := stp n B t) (t := t) (B := B) (val := fun k => Int32.ofNat k) (fun F g y j => f_X11_readOrder_4 sh F g y j) (wds 0) 0 (999995 + 1) (-1) (by decide) (fun F y i hi => by
    have hi9 : i < 4 := hi
    obtain ⟨k1, k2, k3⟩ := hs0_ok ⟨i, hi9⟩
    have e : g.2.1 102 i = Int64.ofNat (hs0.getD i 0) := by
      rw [hc.2.2.2 i hi9]
      have : ∀ i : Fin 4, ([394347, 206276, 24290536, 525939] : List Int64).getD i.val 0 = Int64.ofNat (hs0.getD i.val 0) := by decide
      exact this ⟨i, hi9⟩
    simp only [Nat.zero_add]
    rw [f_X11_readOrder_4, if_neg (by rw [show (4 : Int32) = Int32.ofNat 4 from rfl, o_le (by omega) (by omega)]; omega), gb_ck_s (o_in hi9 (by omega)), o_cl (by omega), e, iw_m hn hm k1 k2 k3, gb_bd_s]
    unfold f_X11_readOrder_27
    simp only []
    by_cases q : wq (stp n B t) B t ((wds 0).getD i []) = true
    · rw [if_pos q, if_pos q, if_neg (show ¬ (1 : Int32) = 0 by decide), o_succ]
    · rw [if_neg q, if_neg q, if_pos rfl, o_succ])
  rw [show (wds 0).length = 4 from rfl] at key
  exact (show _ = _ from key)
theorem o54f {sh : List gb_Sh} {n s : Nat} {B : Nat → Int32} {g : gb_G} {y : Int32} (h : mS g n B s) (hb : g.1 77 19 = 0) : ∃ r, f_X11_readOrder_54 sh g y 0 = some r ∧ RB r s := by
  unfold f_X11_readOrder_54
  rw [must_f h hb, gb_bd_s, if_neg (by rw [rbf.1]; decide)]
  exact ⟨_, rfl, rbf⟩
/-- a CLAUSE of ORDERS, in the reference -/
theorem ord_m {sh : List gb_Sh} {n s l m : Nat} {B : Nat → Int32} {g : gb_G} {cd : Cd} (hn : n ≤ 400) (hm : m < 12) (h : RY n B true g s l cd) (h21 : g.1 77 21 = Int32.ofNat m) : MO n B true g m cd (f_X11_readOrder sh g) (clO n B true s l) := by
  rw [hd_o hn h.2.2.2.2.2.1 h.1, f_X11_readOrder_4, if_pos (by decide)]
  unfold clO
  rw [show (if true = true then 0 else 1) = 0 from rfl]
  cases hf : fW n B s 0 with
  | none =>
    simp only []
    rw [if_pos trivial]
    exact o54f h.1 h.2.1
  | some k =>
    obtain ⟨k1, k2⟩ := hd_b (ord := true) hf h.1.2.1
    simp only []
    rw [if_neg (fun z => by have := congrArg Int32.toInt z; rw [o_int (by omega), show (-1 : Int32).toInt = -1 from rfl] at this; omega), if_neg (by rw [h21, show (12 : Int32) = Int32.ofNat 12 from rfl, o_le (by omega) (by omega)]; omega)]
    obtain ⟨o, e1, e2, e3⟩ := must_t (sh := sh) (x := 1) hn h.1 h.2.1 (by decide)
    have N := nx_k e3
    have ho1 : RY n B true o (tn n B s) l cd := RY_fr h e2 (tn_b h.1.2.1).1 fun c k q => N c k (by omega)
    unfold f_X11_readOrder_54
    rw [e1, gb_bd_s, if_pos ho1.2.1, gb_let_s, (N 77 21 (by omega)).1, h21, o_succ, show (8 : Int32) = Int32.ofNat 8 from rfl, o_mul]
    obtain ⟨g', f', x1, x2, x3⟩ := o85 (sh := sh) (m := m) (y1 := Int32.ofNat k) hm 8 0 gb_N (gb_pi o 77 21 (Int32.ofNat (m + 1))) rfl (by decide) (fun k hk => by omega)
    rw [show (0 : Int32) = Int32.ofNat 0 from rfl, x3, f_X11_readOrder_85, if_pos (by decide), gb_ck_s (o_in (by omega) (by omega)), o_cl (by omega), gb_let_s]
    have E : ∀ c j, ¬ (c = 103 ∧ 8 * m ≤ j) → ¬ (c = 77 ∧ j = 21) → eqc o (gb_pi g' 103 (8 * m) (Int32.ofNat k)) c j := fun c j q1 q2 => eqc_tr (eqpi (by omega)) (eqc_tr (x1 c j q1) (eqpi (by omega)))
    have e0 : (gb_pi g' 103 (8 * m) (Int32.ofNat k)).1 103 (8 * m) = Int32.ofNat k := pi_e
    have ez : ∀ j, 1 ≤ j → j < 8 → (gb_pi g' 103 (8 * m) (Int32.ofNat k)).1 103 (8 * m + j) = 0 := fun j z1 z2 => (pi_n (by omega)).trans (x2 j z2)
    have e21 : (gb_pi g' 103 (8 * m) (Int32.ofNat k)).1 77 21 = Int32.ofNat (m + 1) := (pi_n (by omega)).trans ((x1 77 21 (by omega)).1.trans pi_e)
    generalize gb_pi g' 103 (8 * m) (Int32.ofNat k) = g2 at E e0 ez e21
    have h2 : RY n B true g2 (tn n B s) l cd := RY_fr ho1 (mS_e ho1.1 fun c k q => E c k (by omega) (by omega)) (Nat.le_refl _) fun c k q => E c k (by omega) (by omega)
    refine MO_up (g1 := g2) (cd1 := cd) ?_ lowR_rf (Nat.le_refl _) (fun i hi => (E 103 i (by omega) (by omega)).1.trans (N 103 i (by omega)).1)
    by_cases q : k = 3
    · subst q
      rw [if_pos (show Int32.ofNat 3 = (3 : Int32) from rfl), if_pos rfl]
      exact o125 hn hm (Nat.le_refl _) h2 e21 e0 ⟨0, 0, Nat.zero_le _, ez 1 (by omega) (by omega), ez 2 (by omega) (by omega), rfl⟩ (ez 3 (by omega) (by omega)) (ez 4 (by omega) (by omega))
    · rw [if_neg (show ¬ Int32.ofNat k = 3 from fun z => q (o_inj (j := 3) (by omega) (by omega) z)), if_neg q, o_succ]
      have r := rsm (sh := sh) (j := 8 * m + 1) hn (by omega) h2
      cases ho : spO n B true 60 0 0 (tn n B s) l with
      | inl p =>
        rw [ho] at r
        obtain ⟨r, r1, r2⟩ := r
        rw [r1, gb_bd_s]
        exact o125b hm r2
      | inr x =>
        obtain ⟨s', l', D, φ'⟩ := x
        rw [ho] at r
        obtain ⟨r, cd', r1, r2, r3, r4, r5, r6, r7⟩ := r
        rw [r1, gb_bd_s]
        simp only []
        exact MO_up (o125 hn hm k2 r2 (r6.trans e21) ((r7 _ (by omega)).trans e0) r5 ((r7 _ (by omega)).trans (ez 3 (by omega) (by omega))) ((r7 _ (by omega)).trans (ez 4 (by omega) (by omega)))) r3 r4 fun i hi => r7 i (by omega)
theorem ord_m12 {sh : List gb_Sh} {n s l : Nat} {B : Nat → Int32} {g : gb_G} {cd : Cd} (hn : n ≤ 400) (h : RY n B true g s l cd) (h21 : g.1 77 21 = Int32.ofNat 12) : ∃ r, f_X11_readOrder sh g = some r ∧ RB r s := by
  rw [hd_o hn h.2.2.2.2.2.1 h.1, f_X11_readOrder_4, if_pos (by decide), if_pos (show (12 : Int32) ≤ g.1 77 21 by rw [h21]; decide), ite_self]
  exact o54f h.1 h.2.1
