/-! ===== the class' machine ===== -/
def okn (nw : Nat) (w : Nat → Int32) : Prop := ∀ j, j < nw → im9 (w j)
/-- what a value can be -/
def VD (nw : Nat) (D : Den) : Prop := ∀ w, okn nw w → ∀ v, D w = some v → im9 v
/-- a TEST -/
def TD (nw : Nat) (D : Den) : Prop := ∀ w, okn nw w → ∀ v, D w = some v → v = 0 ∨ v = 1
def frS (g g' : gb_G) (h : Nat) : Prop := (∀ c k, ¬ c = 53 → g'.1 c k = g.1 c k) ∧ ∀ k, k < h → g'.1 53 k = g.1 53 k
theorem frS.rf {g : gb_G} {h : Nat} : frS g g h := ⟨fun _ _ _ => rfl, fun _ _ => rfl⟩
theorem frS.tr {g g' g'' : gb_G} {h h' : Nat} (a : frS g g' h) (b : frS g' g'' h') (hh : h ≤ h') : frS g g'' h := ⟨fun c k q => (b.1 c k q).trans (a.1 c k q), fun k q => (b.2 k (by omega)).trans (a.2 k q)⟩
theorem frS.pi {g : gb_G} {h : Nat} {x : Int32} : frS g (gb_pi g 53 h x) h := ⟨fun c k q => pi_n (by omega), fun k q => pi_n (by omega)⟩
/-- code O A from a to e, with no more than k values at once, tells D -/
def XC (O A : Nat → Int32) (nw a e k : Nat) (D : Den) : Prop := ∀ (sh : List gb_Sh) (b a4 : Nat) (g : gb_G) (h F u E : Nat), (∀ i, a ≤ i → i < e → g.1 (b + 1) i = O i ∧ g.1 (b + 2) i = A i) → E ≤ gb_ln sh (b + 1) → E ≤ gb_ln sh (b + 2) → e ≤ E → E ≤ 400 → ¬ b + 1 = 53 → ¬ b + 2 = 53 → ¬ a4 = 53 → gb_ln sh (b + 1) < 2147483648 → gb_ln sh (b + 2) < 2147483648 → h + k ≤ 51 → u ≤ a → 401 ≤ F + a → okn nw (g.1 a4) →
  (D (g.1 a4) = none → ∃ g', f_X5_run_75 sh b a4 nw F g (Int32.ofNat a) (Int32.ofNat E) (Int32.ofNat h) (Int32.ofNat u) = some (g', -2147483648)) ∧
  ∀ v, D (g.1 a4) = some v → ∃ g' F' u', 401 ≤ F' + e ∧ u' ≤ e ∧ frS g g' h ∧ g'.1 53 h = v ∧ f_X5_run_75 sh b a4 nw F g (Int32.ofNat a) (Int32.ofNat E) (Int32.ofNat h) (Int32.ofNat u) = f_X5_run_75 sh b a4 nw F' g' (Int32.ofNat e) (Int32.ofNat E) (Int32.ofNat (h + 1)) (Int32.ofNat u')
theorem XC.eq {O A O' A' : Nat → Int32} {nw a e k : Nat} {D : Den} (h : XC O A nw a e k D) (q : ∀ i, a ≤ i → i < e → O' i = O i ∧ A' i = A i) : XC O' A' nw a e k D := fun sh b a4 g h0 F u E h1 => h sh b a4 g h0 F u E fun i hi hj => by rw [← (q i hi hj).1, ← (q i hi hj).2]; exact h1 i hi hj
theorem XC.mo {O A : Nat → Int32} {nw a e k k' : Nat} {D : Den} (h : XC O A nw a e k D) (q : k ≤ k') : XC O A nw a e k' D := fun sh b a4 g h0 F u E h1 h2 h3 h4 h5 h6 h7 h8 h9 h10 h11 => h sh b a4 g h0 F u E h1 h2 h3 h4 h5 h6 h7 h8 h9 h10 (by omega)
/-- a step begins -/
theorem xs_0 {sh : List gb_Sh} {b a4 nw f E a h u : Nat} {g : gb_G} {op arg : Int32} (ho : g.1 (b + 1) a = op) (hA : g.1 (b + 2) a = arg) (h2 : E ≤ gb_ln sh (b + 1)) (h3 : E ≤ gb_ln sh (b + 2)) (hl1 : gb_ln sh (b + 1) < 2147483648) (hl2 : gb_ln sh (b + 2) < 2147483648) (ha : a < E) (hE : E ≤ 400) (hu : u ≤ a) : f_X5_run_75 sh b a4 nw (f + 1) g (Int32.ofNat a) (Int32.ofNat E) (Int32.ofNat h) (Int32.ofNat u) = (if 1 < op then (if 4 < op then (if 2 ≤ Int32.ofNat h then (gb_ck (Int32.ofNat h - 2) 51 (gb_ck (Int32.ofNat h - 1) 51 (gb_bd (f_X5_join sh g op (g.1 53 ((Int32.ofNat h - 2).toNatClampNeg)) (g.1 53 ((Int32.ofNat h - 1).toNatClampNeg))) (fun r9 => f_X5_run_292 sh b a4 nw (fun w w0 w1 w2 w3 => f_X5_run_318 sh b a4 nw (fun w w0 w1 w2 w3 => f_X5_run_75 sh b a4 nw f w w0 w1 w2 w3) w w0 w1 w2 w3) r9.1 (Int32.ofNat a + 1) (Int32.ofNat E) (Int32.ofNat h) (Int32.ofNat u) r9.2)))) else (f_X5_run_292 sh b a4 nw (fun w w0 w1 w2 w3 => f_X5_run_318 sh b a4 nw (fun w w0 w1 w2 w3 => f_X5_run_75 sh b a4 nw f w w0 w1 w2 w3) w w0 w1 w2 w3) g (Int32.ofNat a + 1) (Int32.ofNat E) (Int32.ofNat h) (Int32.ofNat u) (-2147483648))) else (if 1 ≤ Int32.ofNat h then (gb_ck (Int32.ofNat h - 1) 51 (if op = 2 then (gb_ck (Int32.ofNat h - 1) 51 (gb_let (gb_pi g 53 ((Int32.ofNat h - 1).toNatClampNeg) (1 - (g.1 53 ((Int32.ofNat h - 1).toNatClampNeg)))) (fun g17 => f_X5_run_318 sh b a4 nw (fun w w0 w1 w2 w3 => f_X5_run_75 sh b a4 nw f w w0 w1 w2 w3) g17 (Int32.ofNat a + 1) (Int32.ofNat E) (Int32.ofNat h) (Int32.ofNat u)))) else (if op = 3 then (f_X5_run_237 sh b a4 nw (fun w w0 w1 w2 w3 => f_X5_run_318 sh b a4 nw (fun w w0 w1 w2 w3 => f_X5_run_75 sh b a4 nw f w w0 w1 w2 w3) w w0 w1 w2 w3) g (Int32.ofNat a + 1) (Int32.ofNat E) (Int32.ofNat h) (Int32.ofNat u) arg 1 (g.1 53 ((Int32.ofNat h - 1).toNatClampNeg))) else (f_X5_run_237 sh b a4 nw (fun w w0 w1 w2 w3 => f_X5_run_318 sh b a4 nw (fun w w0 w1 w2 w3 => f_X5_run_75 sh b a4 nw f w w0 w1 w2 w3) w w0 w1 w2 w3) g (Int32.ofNat a + 1) (Int32.ofNat E) (Int32.ofNat h) (Int32.ofNat u) arg 0 (g.1 53 ((Int32.ofNat h - 1).toNatClampNeg)))))) else (some (g, (-2147483648))))) else (if 51 ≤ Int32.ofNat h then (f_X5_run_145 sh b a4 nw g ) else (if op = 1 then (if arg < 0 then (f_X5_run_145 sh b a4 nw g ) else (if arg < (Int32.ofNat nw) then (f_X5_run_148 sh b a4 nw (fun w w0 w1 w2 w3 => f_X5_run_318 sh b a4 nw (fun w w0 w1 w2 w3 => f_X5_run_75 sh b a4 nw f w w0 w1 w2 w3) w w0 w1 w2 w3) g (Int32.ofNat a + 1) (Int32.ofNat E) (Int32.ofNat h) (Int32.ofNat u) op arg) else (f_X5_run_145 sh b a4 nw g ))) else (f_X5_run_148 sh b a4 nw (fun w w0 w1 w2 w3 => f_X5_run_318 sh b a4 nw (fun w w0 w1 w2 w3 => f_X5_run_75 sh b a4 nw f w w0 w1 w2 w3) w w0 w1 w2 w3) g (Int32.ofNat a + 1) (Int32.ofNat E) (Int32.ofNat h) (Int32.ofNat u) op arg)))) := by
  rw [f_X5_run_75, if_neg (by rw [o_le (by omega) (by omega)]; omega), if_neg (by rw [o_le (by omega) (by omega)]; omega), gb_ck_s (o_in (by omega) hl1), gb_ck_s (o_in (by omega) hl2), o_cl (by omega), ho, hA]
/-- a number -/
theorem XC_num {O A : Nat → Int32} {nw a : Nat} {v : Int32} (ho : O a = 0) (hA : A a = v) : XC O A nw a (a + 1) 1 (fun _ => some v) := by
  intro sh b a4 g h F u E h1 h2 h3 h4 h5 h6 h7 h8 hl1 hl2 h9 h10 h11 h12
  refine ⟨fun z => (nomatch z), fun v' z => ?_⟩
  cases z
  obtain ⟨f, rfl⟩ : ∃ f, F = f + 1 := ⟨F - 1, by omega⟩
  obtain ⟨e1, e2⟩ := h1 a (Nat.le_refl _) (by omega)
  refine ⟨gb_pi g 53 h v, f, u + 1, by omega, by omega, frS.pi, pi_e, ?_⟩
  rw [xs_0 (e1.trans ho) (e2.trans hA) h2 h3 hl1 hl2 (by omega) h5 h10, if_neg (by decide), if_neg (by rw [show (51 : Int32) = Int32.ofNat 51 from rfl, o_le (by omega) (by omega)]; omega), if_neg (by decide)]
  unfold f_X5_run_148 f_X5_run_169 f_X5_run_318
  rw [if_pos rfl, gb_ck_s (o_in (by omega) (by omega)), o_cl (by omega), gb_let_s]
  simp only []
  rw [o_succ, o_succ, o_succ]
/-- a word -/
theorem XC_word {O A : Nat → Int32} {nw a j : Nat} (ho : O a = 1) (hA : A a = Int32.ofNat j) (hj : j < nw) (hnw : nw < 100) : XC O A nw a (a + 1) 1 (fun w => some (w j)) := by
  intro sh b a4 g h F u E h1 h2 h3 h4 h5 h6 h7 h8 hl1 hl2 h9 h10 h11 h12
  refine ⟨fun z => (nomatch z), fun v' z => ?_⟩
  cases z
  obtain ⟨f, rfl⟩ : ∃ f, F = f + 1 := ⟨F - 1, by omega⟩
  obtain ⟨e1, e2⟩ := h1 a (Nat.le_refl _) (by omega)
  refine ⟨gb_pi g 53 h (g.1 a4 j), f, u + 1, by omega, by omega, frS.pi, pi_e, ?_⟩
  rw [xs_0 (e1.trans ho) (e2.trans hA) h2 h3 hl1 hl2 (by omega) h5 h10, if_neg (by decide), if_neg (by rw [show (51 : Int32) = Int32.ofNat 51 from rfl, o_le (by omega) (by omega)]; omega), if_pos rfl, if_neg (by rw [show (0 : Int32) = Int32.ofNat 0 from rfl, o_lt (by omega) (by omega)]; omega), if_pos (by rw [o_lt (by omega) (by omega)]; exact hj)]
  unfold f_X5_run_148 f_X5_run_169 f_X5_run_318
  rw [if_neg (by decide), gb_ck_s (o_in hj (by omega)), gb_ck_s (o_in (by omega) (by omega)), o_cl (by omega), o_cl (by omega), gb_let_s]
  simp only []
  rw [o_succ, o_succ, o_succ]
def Db (op : Nat) (D1 D2 : Den) : Den := fun w => match D1 w with
  | none => none
  | some x => match D2 w with
    | none => none
    | some y => jn op x y
/-- two joined -/
theorem XC_bin {O A : Nat → Int32} {nw a m e k1 k2 op : Nat} {D1 D2 : Den} (c1 : XC O A nw a m k1 D1) (c2 : XC O A nw m e k2 D2) (v1 : VD nw D1) (v2 : VD nw D2) (ho : O e = Int32.ofNat (5 + op)) (hop : op < 8) (ham : a ≤ m) (hme : m ≤ e) (hk1 : 1 ≤ k1) (hk2 : 1 ≤ k2) : XC O A nw a (e + 1) (k1 + k2) (Db op D1 D2) := by
  intro sh b a4 g h F u E h1 h2 h3 h4 h5 h6 h7 h8 hl1 hl2 h9 h10 h11 h12
  obtain ⟨n1, s1⟩ := c1 sh b a4 g h F u E (fun i hi hj => h1 i hi (by omega)) h2 h3 (by omega) h5 h6 h7 h8 hl1 hl2 (by omega) h10 h11 h12
  unfold Db
  cases q1 : D1 (g.1 a4) with
  | none => exact ⟨fun _ => n1 q1, fun v z => (nomatch z)⟩
  | some x =>
    obtain ⟨g1, F1, u1, b1, b2, b3, b4, b5⟩ := s1 x q1
    have ew : g1.1 a4 = g.1 a4 := funext fun k => b3.1 a4 k h8
    obtain ⟨n2, s2⟩ := c2 sh b a4 g1 (h + 1) F1 u1 E (fun i hi hj => by rw [b3.1 _ _ h6, b3.1 _ _ h7]; exact h1 i (by omega) (by omega)) h2 h3 (by omega) h5 h6 h7 h8 hl1 hl2 (by omega) b2 b1 (by rw [ew]; exact h12)
    rw [ew] at n2 s2
    rw [b5]
    simp only []
    cases q2 : D2 (g.1 a4) with
    | none => exact ⟨fun _ => n2 q2, fun v z => (nomatch z)⟩
    | some y =>
      obtain ⟨g2, F2, u2, d1, d2, d3, d4, d5⟩ := s2 y q2
      rw [d5]
      simp only []
      obtain ⟨f, rfl⟩ : ∃ f, F2 = f + 1 := ⟨F2 - 1, by omega⟩
      have eo : g2.1 (b + 1) e = Int32.ofNat (5 + op) := by rw [d3.1 _ _ h6, b3.1 _ _ h6, (h1 e (by omega) (by omega)).1, ho]
      have ex : g2.1 53 h = x := by rw [d3.2 h (by omega)]; exact b4
      rw [xs_0 (op := Int32.ofNat (5 + op)) eo rfl h2 h3 hl1 hl2 (by omega) h5 d2, if_pos (by rw [show (1 : Int32) = Int32.ofNat 1 from rfl, o_lt (by omega) (by omega)]; omega), if_pos (by rw [show (4 : Int32) = Int32.ofNat 4 from rfl, o_lt (by omega) (by omega)]; omega), if_pos (by rw [show (2 : Int32) = Int32.ofNat 2 from rfl, o_le (by omega) (by omega)]; omega), show (2 : Int32) = Int32.ofNat 2 from rfl, a_sub (by omega), o_pred, gb_ck_s (o_in (by omega) (by omega)), gb_ck_s (o_in (by omega) (by omega)), o_cl (by omega), o_cl (by omega), show h + 1 + 1 - 2 = h by omega, ex, d4, jn_c hop (v1 _ h12 _ q1) (v2 _ h12 _ q2), gb_bd_s]
      unfold f_X5_run_292 f_X5_run_318
      simp only []
      cases q3 : jn op x y with
      | none => exact ⟨fun _ => ⟨g2, if_pos rfl⟩, fun v z => (nomatch z)⟩
      | some z =>
        have hz := jn_b q3
        refine ⟨fun y => (nomatch y), fun v y => ?_⟩
        cases y
        refine ⟨gb_pi g2 53 h z, f, u2 + 1, by omega, by omega, (b3.tr d3 (by omega)).tr frS.pi (Nat.le_refl _), pi_e, ?_⟩
        show (if z = -2147483648 then _ else _) = _
        rw [if_neg (fun q => by rw [q] at hz; exact absurd hz.1 (by decide)), show Int32.ofNat (h + 1 + 1) + -1 = Int32.ofNat (h + 1) from by rw [← o_succ, show ((-1 : Int32)) = -(1 : Int32) from rfl, ← Int32.sub_eq_add_neg, Int32.add_sub_cancel], o_pred, gb_ck_s (o_in (by omega) (by omega)), o_cl (by omega), gb_let_s, o_succ, o_succ]
        rfl
def Dn (D : Den) : Den := fun w => match D w with
  | none => none
  | some x => some (1 - x)
/-- not -/
theorem XC_not {O A : Nat → Int32} {nw a e k : Nat} {D : Den} (c : XC O A nw a e k D) (ho : O e = 2) (hae : a ≤ e) (hk : 1 ≤ k) : XC O A nw a (e + 1) k (Dn D) := by
  intro sh b a4 g h F u E h1 h2 h3 h4 h5 h6 h7 h8 hl1 hl2 h9 h10 h11 h12
  obtain ⟨n1, s1⟩ := c sh b a4 g h F u E (fun i hi hj => h1 i hi (by omega)) h2 h3 (by omega) h5 h6 h7 h8 hl1 hl2 (by omega) h10 h11 h12
  unfold Dn
  cases q1 : D (g.1 a4) with
  | none => exact ⟨fun _ => n1 q1, fun v z => (nomatch z)⟩
  | some x =>
    obtain ⟨g1, F1, u1, b1, b2, b3, b4, b5⟩ := s1 x q1
    refine ⟨fun z => (nomatch z), fun v z => ?_⟩
    cases z
    obtain ⟨f, rfl⟩ : ∃ f, F1 = f + 1 := ⟨F1 - 1, by omega⟩
    have eo : g1.1 (b + 1) e = 2 := by rw [b3.1 _ _ h6, (h1 e (by omega) (by omega)).1, ho]
    refine ⟨gb_pi g1 53 h (1 - x), f, u1 + 1, by omega, by omega, b3.tr frS.pi (Nat.le_refl _), pi_e, ?_⟩
    rw [b5, xs_0 eo rfl h2 h3 hl1 hl2 (by omega) h5 b2, if_pos (by decide), if_neg (by decide), if_pos (by rw [show (1 : Int32) = Int32.ofNat 1 from rfl, o_le (by omega) (by omega)]; omega), o_pred, gb_ck_s (o_in (by omega) (by omega)), if_pos rfl, gb_ck_s (o_in (by omega) (by omega)), o_cl (by omega), b4, gb_let_s]
    unfold f_X5_run_318
    rw [o_succ, o_succ]
/-- "or" (i = 3, c = 1) and "and" (i = 4, c = 0): the second is looked at only where the first doesn't tell -/
def Do (c : Int32) (D1 D2 : Den) : Den := fun w => match D1 w with
  | none => none
  | some x => if x = c then some c else D2 w
theorem XC_or {O A : Nat → Int32} {nw a m e k1 k2 : Nat} {D1 D2 : Den} {c : Int32} (c1 : XC O A nw a m k1 D1) (c2 : XC O A nw (m + 1) e k2 D2) (ho : (O m = 3 ∧ c = 1) ∨ (O m = 4 ∧ c = 0)) (hA : A m = Int32.ofNat e) (ham : a ≤ m) (hme : m + 1 ≤ e) (hk1 : 1 ≤ k1) : XC O A nw a e (k1 + k2) (Do c D1 D2) := by
  intro sh b a4 g h F u E h1 h2 h3 h4 h5 h6 h7 h8 hl1 hl2 h9 h10 h11 h12
  obtain ⟨n1, s1⟩ := c1 sh b a4 g h F u E (fun i hi hj => h1 i hi (by omega)) h2 h3 (by omega) h5 h6 h7 h8 hl1 hl2 (by omega) h10 h11 h12
  unfold Do
  cases q1 : D1 (g.1 a4) with
  | none => exact ⟨fun _ => n1 q1, fun v z => (nomatch z)⟩
  | some x =>
    obtain ⟨g1, F1, u1, b1, b2, b3, b4, b5⟩ := s1 x q1
    obtain ⟨f, rfl⟩ : ∃ f, F1 = f + 1 := ⟨F1 - 1, by omega⟩
    obtain ⟨m1, m2⟩ := h1 m (by omega) (by omega)
    have eA : g1.1 (b + 2) m = Int32.ofNat e := by rw [b3.1 _ _ h7, m2, hA]
    have key : f_X5_run_75 sh b a4 nw (f + 1) g1 (Int32.ofNat m) (Int32.ofNat E) (Int32.ofNat (h + 1)) (Int32.ofNat u1) = if x = c then f_X5_run_75 sh b a4 nw f g1 (Int32.ofNat e) (Int32.ofNat E) (Int32.ofNat (h + 1)) (Int32.ofNat (u1 + 1)) else f_X5_run_75 sh b a4 nw f g1 (Int32.ofNat (m + 1)) (Int32.ofNat E) (Int32.ofNat h) (Int32.ofNat (u1 + 1)) := by
      have k237 : f_X5_run_237 sh b a4 nw (fun w w0 w1 w2 w3 => f_X5_run_318 sh b a4 nw (fun w w0 w1 w2 w3 => f_X5_run_75 sh b a4 nw f w w0 w1 w2 w3) w w0 w1 w2 w3) g1 (Int32.ofNat m + 1) (Int32.ofNat E) (Int32.ofNat (h + 1)) (Int32.ofNat u1) (Int32.ofNat e) c (g1.1 53 ((Int32.ofNat (h + 1) - 1).toNatClampNeg)) = if x = c then f_X5_run_75 sh b a4 nw f g1 (Int32.ofNat e) (Int32.ofNat E) (Int32.ofNat (h + 1)) (Int32.ofNat (u1 + 1)) else f_X5_run_75 sh b a4 nw f g1 (Int32.ofNat (m + 1)) (Int32.ofNat E) (Int32.ofNat h) (Int32.ofNat (u1 + 1)) := by
        unfold f_X5_run_237 f_X5_run_318
        rw [o_pred, o_cl (by omega), b4, o_succ]
        by_cases q : x = c
        · rw [if_pos q, if_pos q]
          have mx : f_J9_max_7cf53 sh g1 (Int32.ofNat (m + 1)) (Int32.ofNat e) = some (g1, Int32.ofNat e) := by
            unfold f_J9_max_7cf53
            by_cases z : Int32.ofNat (m + 1) < Int32.ofNat e
            · rw [if_pos z]
            · rw [if_neg z]
              rw [o_lt (by omega) (by omega)] at z
              rw [show m + 1 = e by omega]
          rw [mx, gb_bd_s]
          simp only []
          rw [o_succ]
        · rw [if_neg q, if_neg q, show Int32.ofNat (h + 1) + -1 = Int32.ofNat h from by rw [← o_succ, show ((-1 : Int32)) = -(1 : Int32) from rfl, ← Int32.sub_eq_add_neg, Int32.add_sub_cancel]]
          simp only []
          rw [o_succ]
      rcases ho with ⟨o1, o2⟩ | ⟨o1, o2⟩
      · have eo : g1.1 (b + 1) m = 3 := by rw [b3.1 _ _ h6, m1, o1]
        rw [xs_0 eo eA h2 h3 hl1 hl2 (by omega) h5 b2, if_pos (by decide), if_neg (by decide), if_pos (by rw [show (1 : Int32) = Int32.ofNat 1 from rfl, o_le (by omega) (by omega)]; omega), gb_ck_s (by rw [o_pred]; exact o_in (by omega) (by omega)), if_neg (by decide), if_pos rfl, ← k237, o2]
      · have eo : g1.1 (b + 1) m = 4 := by rw [b3.1 _ _ h6, m1, o1]
        rw [xs_0 eo eA h2 h3 hl1 hl2 (by omega) h5 b2, if_pos (by decide), if_neg (by decide), if_pos (by rw [show (1 : Int32) = Int32.ofNat 1 from rfl, o_le (by omega) (by omega)]; omega), gb_ck_s (by rw [o_pred]; exact o_in (by omega) (by omega)), if_neg (by decide), if_neg (by decide), ← k237, o2]
    rw [b5, key]
    simp only []
    by_cases q : x = c
    · rw [if_pos q, if_pos q]
      refine ⟨fun z => (nomatch z), fun v z => ?_⟩
      cases z
      exact ⟨g1, f, u1 + 1, by omega, by omega, b3, b4.trans q, rfl⟩
    · rw [if_neg q, if_neg q]
      have ew : g1.1 a4 = g.1 a4 := funext fun k => b3.1 a4 k h8
      obtain ⟨n2, s2⟩ := c2 sh b a4 g1 h f (u1 + 1) E (fun i hi hj => by rw [b3.1 _ _ h6, b3.1 _ _ h7]; exact h1 i (by omega) (by omega)) h2 h3 (by omega) h5 h6 h7 h8 hl1 hl2 (by omega) (by omega) (by omega) (by rw [ew]; exact h12)
      rw [ew] at n2 s2
      refine ⟨n2, fun v z => ?_⟩
      obtain ⟨g2, F2, u2, d1, d2, d3, d4, d5⟩ := s2 v z
      exact ⟨g2, F2, u2, d1, d2, b3.tr d3 (Nat.le_refl _), d4, d5⟩
