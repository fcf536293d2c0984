/-! ===== the reference's machine, joining ===== -/
theorem nf {i j : Nat} (hi : i < 100) (hj : j < 100) (h : ¬ i = j) : ¬ Int32.ofNat i = Int32.ofNat j := fun z => h (o_inj (by omega) (by omega) z)
theorem rk_m {sh : List gb_Sh} {g : gb_G} {op : Nat} {x y : Int32} (ho : op < 8) (hx : im9 x) (hy : im9 y) (hb : g.1 77 38 = 0) : ∃ o : gb_G × Int64, f_X11_reckon sh g (Int32.ofNat (20 + op)) x.toInt64 y.toInt64 = some o ∧ (∀ n, frR g o.1 n) ∧ (((op = 3 ∨ op = 4) ∧ y = 0 ∧ o.1.1 77 38 = 1) ∨ (¬ ((op = 3 ∨ op = 4) ∧ y = 0) ∧ o.1.1 77 38 = 0 ∧ o.2.toInt = jz op x.toInt y.toInt)) := by
  have bx := na hx
  have by' := na hy
  have bx' : x.toInt64.toInt.natAbs ≤ 1000000000 := by rw [j_of]; exact bx
  unfold f_X11_reckon f_X11_reckon_72 f_X11_reckon_104
  have cz : ∀ {P : Prop}, (y = 0 → P) → (¬ y = 0 → P) → P := fun a b => if h : y = 0 then a h else b h
  have y0 : y = 0 → lg_cmp y.toInt64 0 = 0 := fun z => by rw [z]; rfl
  have y1 : ¬ y = 0 → ¬ lg_cmp y.toInt64 0 = 0 := fun z q => z (t64.1 (((lg_cmp_eq _ _).1 q).trans (show (0 : Int64) = (0 : Int32).toInt64 from rfl)))
  have y2 : ¬ y = 0 → ¬ y.toInt64 = 0 := fun z q => z (t64.1 (q.trans (show (0 : Int64) = (0 : Int32).toInt64 from rfl)))
  have hc : op = 0 ∨ op = 1 ∨ op = 2 ∨ op = 3 ∨ op = 4 ∨ op = 5 ∨ op = 6 ∨ op = 7 := by omega
  rcases hc with rfl | rfl | rfl | rfl | rfl | rfl | rfl | rfl
  · rw [if_pos (show Int32.ofNat (20 + 0) = 20 from rfl)]
    exact ⟨_, rfl, fun n => frR.rf, Or.inr ⟨by omega, hb, by rw [j_add (by rw [j_of, j_of]; omega) (by rw [j_of, j_of]; omega), j_of, j_of]; rfl⟩⟩
  · rw [if_neg (show ¬ Int32.ofNat (20 + 1) = 20 by decide), if_pos (show Int32.ofNat (20 + 1) = 21 from rfl)]
    exact ⟨_, rfl, fun n => frR.rf, Or.inr ⟨by omega, hb, by rw [j_sub (by rw [j_of, j_of]; omega) (by rw [j_of, j_of]; omega), j_of, j_of]; rfl⟩⟩
  · have := mul_b bx by'
    rw [if_neg (show ¬ Int32.ofNat (20 + 2) = 20 by decide), if_neg (show ¬ Int32.ofNat (20 + 2) = 21 by decide), if_pos (show Int32.ofNat (20 + 2) = 22 from rfl)]
    exact ⟨_, rfl, fun n => frR.rf, Or.inr ⟨by omega, hb, by rw [j_mul (by rw [j_of, j_of]; omega) (by rw [j_of, j_of]; omega), j_of, j_of]; rfl⟩⟩
  · rw [if_neg (show ¬ Int32.ofNat (20 + 3) = 20 by decide), if_neg (show ¬ Int32.ofNat (20 + 3) = 21 by decide), if_neg (show ¬ Int32.ofNat (20 + 3) = 22 by decide), if_pos (show Int32.ofNat (20 + 3) = 23 from rfl)]
    refine cz (fun q => ?_) (fun q => ?_)
    · rw [if_pos (y0 q), gb_bo_s (Or.inr rfl), gb_let_s, show (gb_pi g 77 38 1).1 77 38 = 1 from pi_e, if_neg (by decide)]
      exact ⟨_, rfl, fun n => frR.pi, Or.inl ⟨Or.inl rfl, q, pi_e⟩⟩
    · rw [if_neg (y1 q), gb_bo_s (Or.inl rfl), gb_let_s, show (gb_pi g 77 38 0).1 77 38 = 0 from pi_e, if_pos rfl, gb_nzl_s (y2 q)]
      exact ⟨_, rfl, fun n => frR.pi, Or.inr ⟨fun z => q z.2, pi_e, by rw [j_div bx', j_of, j_of]; rfl⟩⟩
  · rw [if_neg (show ¬ Int32.ofNat (20 + 4) = 20 by decide), if_neg (show ¬ Int32.ofNat (20 + 4) = 21 by decide), if_neg (show ¬ Int32.ofNat (20 + 4) = 22 by decide), if_neg (show ¬ Int32.ofNat (20 + 4) = 23 by decide), if_pos (show Int32.ofNat (20 + 4) = 24 from rfl)]
    refine cz (fun q => ?_) (fun q => ?_)
    · rw [if_pos (y0 q), gb_bo_s (Or.inr rfl), gb_let_s, show (gb_pi g 77 38 1).1 77 38 = 1 from pi_e, if_neg (by decide)]
      exact ⟨_, rfl, fun n => frR.pi, Or.inl ⟨Or.inr rfl, q, pi_e⟩⟩
    · rw [if_neg (y1 q), gb_bo_s (Or.inl rfl), gb_let_s, show (gb_pi g 77 38 0).1 77 38 = 0 from pi_e, if_pos rfl, gb_nzl_s (y2 q)]
      exact ⟨_, rfl, fun n => frR.pi, Or.inr ⟨fun z => q z.2, pi_e, by rw [j_rem bx', j_of, j_of]; rfl⟩⟩
  · rw [if_neg (show ¬ Int32.ofNat (20 + 5) = 20 by decide), if_neg (show ¬ Int32.ofNat (20 + 5) = 21 by decide), if_neg (show ¬ Int32.ofNat (20 + 5) = 22 by decide), if_neg (show ¬ Int32.ofNat (20 + 5) = 23 by decide), if_neg (show ¬ Int32.ofNat (20 + 5) = 24 by decide), if_pos (show Int32.ofNat (20 + 5) = 25 from rfl)]
    by_cases q : 0 ≤ lg_cmp x.toInt64 y.toInt64
    · rw [if_pos q]
      rw [lg_cmp_ge, Int64.le_iff_toInt_le, j_of, j_of] at q
      exact ⟨_, rfl, fun n => frR.rf, Or.inr ⟨by omega, hb, (show (0 : Int) = if x.toInt < y.toInt then 1 else 0 by rw [if_neg (by omega)])⟩⟩
    · rw [if_neg q]
      rw [lg_cmp_ge, Int64.le_iff_toInt_le, j_of, j_of] at q
      exact ⟨_, rfl, fun n => frR.rf, Or.inr ⟨by omega, hb, (show (1 : Int) = if x.toInt < y.toInt then 1 else 0 by rw [if_pos (by omega)])⟩⟩
  · rw [if_neg (show ¬ Int32.ofNat (20 + 6) = 20 by decide), if_neg (show ¬ Int32.ofNat (20 + 6) = 21 by decide), if_neg (show ¬ Int32.ofNat (20 + 6) = 22 by decide), if_neg (show ¬ Int32.ofNat (20 + 6) = 23 by decide), if_neg (show ¬ Int32.ofNat (20 + 6) = 24 by decide), if_neg (show ¬ Int32.ofNat (20 + 6) = 25 by decide), if_pos (show Int32.ofNat (20 + 6) = 26 from rfl)]
    by_cases q : lg_cmp x.toInt64 y.toInt64 ≤ 0
    · rw [if_pos q]
      rw [lg_cmp_le, Int64.le_iff_toInt_le, j_of, j_of] at q
      exact ⟨_, rfl, fun n => frR.rf, Or.inr ⟨by omega, hb, (show (0 : Int) = if y.toInt < x.toInt then 1 else 0 by rw [if_neg (by omega)])⟩⟩
    · rw [if_neg q]
      rw [lg_cmp_le, Int64.le_iff_toInt_le, j_of, j_of] at q
      exact ⟨_, rfl, fun n => frR.rf, Or.inr ⟨by omega, hb, (show (1 : Int) = if y.toInt < x.toInt then 1 else 0 by rw [if_pos (by omega)])⟩⟩
  · rw [if_neg (show ¬ Int32.ofNat (20 + 7) = 20 by decide), if_neg (show ¬ Int32.ofNat (20 + 7) = 21 by decide), if_neg (show ¬ Int32.ofNat (20 + 7) = 22 by decide), if_neg (show ¬ Int32.ofNat (20 + 7) = 23 by decide), if_neg (show ¬ Int32.ofNat (20 + 7) = 24 by decide), if_neg (show ¬ Int32.ofNat (20 + 7) = 25 by decide), if_neg (show ¬ Int32.ofNat (20 + 7) = 26 by decide)]
    by_cases q : lg_cmp x.toInt64 y.toInt64 = 0
    · rw [if_pos q]
      rw [lg_cmp_eq, t64] at q
      exact ⟨_, rfl, fun n => frR.rf, Or.inr ⟨by omega, hb, (show (1 : Int) = if x.toInt = y.toInt then 1 else 0 by rw [if_pos (by rw [q])])⟩⟩
    · rw [if_neg q]
      rw [lg_cmp_eq, t64] at q
      exact ⟨_, rfl, fun n => frR.rf, Or.inr ⟨by omega, hb, (show (0 : Int) = if x.toInt = y.toInt then 1 else 0 by rw [if_neg (fun z => q (Int32.toInt_inj.1 z))])⟩⟩
theorem inl {sh : List gb_Sh} {g : gb_G} {z : Int64} : f_X11_in sh g z (-1000000000) 1000000000 = some (g, if -1000000000 ≤ z.toInt ∧ z.toInt ≤ 1000000000 then 1 else 0) := by
  unfold f_X11_in
  by_cases h1 : lg_cmp z (-1000000000) < 0
  · rw [if_pos h1]
    rw [lg_cmp_lt, Int64.lt_iff_toInt_lt, show (-1000000000 : Int64).toInt = -1000000000 from rfl] at h1
    rw [if_neg (by omega)]
  · rw [if_neg h1]
    rw [lg_cmp_lt, Int64.lt_iff_toInt_lt, show (-1000000000 : Int64).toInt = -1000000000 from rfl] at h1
    by_cases h2 : 0 < lg_cmp z 1000000000
    · rw [if_pos h2]
      rw [lg_cmp_gt, Int64.lt_iff_toInt_lt, show (1000000000 : Int64).toInt = 1000000000 from rfl] at h2
      rw [if_neg (by omega)]
    · rw [if_neg h2]
      rw [lg_cmp_gt, Int64.lt_iff_toInt_lt, show (1000000000 : Int64).toInt = 1000000000 from rfl] at h2
      rw [if_pos (by omega)]
theorem XR_bin {ord : Bool} {O A : Nat → Int32} {nw a m e k1 k2 op : Nat} {D1 D2 : Den} (c1 : XR ord O A nw a m k1 D1) (c2 : XR ord O A nw m e k2 D2) (v1 : VD nw D1) (v2 : VD nw D2) (ho : O e = Int32.ofNat (20 + op)) (hop : op < 8) (ham : a ≤ m) (hme : m ≤ e) (hk1 : 1 ≤ k1) (hk2 : 1 ≤ k2) : XR ord O A nw a (e + 1) (k1 + k2) (Db op D1 D2) := by
  intro sh g n F E w h1 h2 h3 h4 h5 h6 h7 h8
  obtain ⟨n1, s1⟩ := c1 sh g n F E w (RC_mo h1 (Nat.le_refl _) (by omega)) h2 h3 (by omega) (by omega) h6 h7 h8
  unfold Db
  cases q1 : D1 w with
  | none => exact ⟨fun _ => n1 q1, fun v z => (nomatch z)⟩
  | some x =>
    obtain ⟨g1, F1, b1, b2, b3, b4, b5⟩ := s1 x q1
    obtain ⟨n2, s2⟩ := c2 sh g1 (n + 1) F1 E w (RC_fr (RC_mo h1 ham (by omega)) b2) (RW_fr h2 b2) h3 (by omega) (by omega) h6 b1 b4
    rw [b5]
    simp only []
    cases q2 : D2 w with
    | none => exact ⟨fun _ => n2 q2, fun v z => (nomatch z)⟩
    | some y =>
      obtain ⟨g2, F2, d1, d2, d3, d4, d5⟩ := s2 y q2
      rw [d5]
      simp only []
      obtain ⟨f, rfl⟩ : ∃ f, F2 = f + 1 + 1 := ⟨F2 - 2, by omega⟩
      have ex : g2.2.1 97 n = x.toInt64 := by rw [d2.2.2 n (by omega)]; exact b3
      obtain ⟨⟨o1, o2⟩, r1, r2, r3⟩ := rk_m (sh := sh) (g := g2) (op := op) (x := x) (y := y) hop (v1 _ h3 _ q1) (v2 _ h3 _ q2) d4
      rw [xr_0 (RC_fr (RC_fr (RC_mo h1 (show a ≤ e by omega) (Nat.le_refl _)) b2) d2) (by omega) h5 h6 d4, ho]
      unfold f_X11_reckonAll_95
      rw [if_pos (by rw [show (20 : Int32) = Int32.ofNat 20 from rfl, o_le (by omega) (by omega)]; omega), if_neg (by rw [show (28 : Int32) = Int32.ofNat 28 from rfl, o_le (by omega) (by omega)]; omega), neg1, o_pred, gb_ck_s (o_in (by omega) (by omega)), gb_ck_s (o_in (by omega) (by omega)), o_cl (by omega), o_cl (by omega), ex, d3, r1, gb_bd_s]
      simp only []
      rw [gb_ck_s (o_in (by omega) (by omega)), gb_let_s, show (gb_pj o1 97 n o2).1 77 38 = o1.1 77 38 from rfl, show (gb_pj o1 97 n o2).2.1 97 n = o2 from pj_e, inl, gb_ck_s (o_in (by omega) (by omega)), gb_bd_s]
      unfold f_X11_reckonAll_282 f_X11_reckonAll_350
      simp only []
      unfold jn
      rcases r3 with ⟨r4, r5, r6⟩ | ⟨r4, r5, r6⟩
      · simp only [] at r6
        rw [if_pos ⟨r4, r5⟩, r6, if_neg (by decide), gb_bo_s (Or.inr rfl), gb_let_s]
        exact ⟨fun _ => xr_b pi_e, fun v z => (nomatch z)⟩
      · simp only [] at r5 r6
        rw [if_neg r4, r5, if_pos rfl, ← r6]
        unfold bdv
        by_cases q : -1000000000 ≤ o2.toInt ∧ o2.toInt ≤ 1000000000
        · rw [if_pos q, if_pos q, if_neg (show ¬ (1 : Int32) = 0 by decide), gb_bo_s (Or.inl rfl), gb_let_s]
          refine ⟨fun z => (nomatch z), fun v z => ?_⟩
          cases z
          refine ⟨gb_pi (gb_pj o1 97 n o2) 77 38 0, f + 1, by omega, (((b2.tr d2 (by omega)).tr (r2 n) (Nat.le_refl _)).tr frR.pj (Nat.le_refl _)).tr frR.pi (Nat.le_refl _), ?_, pi_e, by rw [o_succ]⟩
          rw [pjj, pj_e]
          apply Int64.toInt_inj.1
          rw [j_of, ofI q.1 q.2]
        · rw [if_neg q, if_neg q, if_pos rfl, gb_bo_s (Or.inr rfl), gb_let_s]
          exact ⟨fun _ => xr_b pi_e, fun v z => (nomatch z)⟩
theorem XR_not {ord : Bool} {O A : Nat → Int32} {nw a e k : Nat} {D : Den} (c : XR ord O A nw a e k D) (t1 : TD nw D) (ho : O e = 28) (hae : a ≤ e) (hk : 1 ≤ k) : XR ord O A nw a (e + 1) k (Dn D) := by
  intro sh g n F E w h1 h2 h3 h4 h5 h6 h7 h8
  obtain ⟨n1, s1⟩ := c sh g n F E w (RC_mo h1 (Nat.le_refl _) (by omega)) h2 h3 (by omega) (by omega) h6 h7 h8
  unfold Dn
  cases q1 : D w with
  | none => exact ⟨fun _ => n1 q1, fun v z => (nomatch z)⟩
  | some x =>
    obtain ⟨g1, F1, b1, b2, b3, b4, b5⟩ := s1 x q1
    refine ⟨fun z => (nomatch z), fun v z => ?_⟩
    cases z
    obtain ⟨f, rfl⟩ : ∃ f, F1 = f + 1 := ⟨F1 - 1, by omega⟩
    refine ⟨gb_pj g1 97 n (1 - x).toInt64, f, by omega, b2.tr frR.pj (Nat.le_refl _), pj_e, b4, ?_⟩
    rw [b5, xr_0 (RC_fr (RC_mo h1 hae (Nat.le_refl _)) b2) (by omega) h5 h6 b4, ho]
    unfold f_X11_reckonAll_95 f_X11_reckonAll_350
    rw [if_pos (by decide), if_pos (by decide), if_pos rfl, o_pred, gb_ck_s (o_in (by omega) (by omega)), gb_ck_s (o_in (by omega) (by omega)), o_cl (by omega), b3, gb_let_s, o_succ]
    have : (1 : Int64) - x.toInt64 = (1 - x).toInt64 := by
      rcases t1 _ h3 _ q1 with z | z <;> rw [z] <;> rfl
    rw [this]
theorem XR_or {ord : Bool} {O A : Nat → Int32} {nw a m e k1 k2 : Nat} {D1 D2 : Den} {c : Int32} (c1 : XR ord O A nw a m k1 D1) (c2 : XR ord O A nw (m + 1) e k2 D2) (ho : (O m = 30 ∧ c = 1) ∨ (O m = 29 ∧ c = 0)) (hA : A m = Int32.ofNat e) (ham : a ≤ m) (hme : m + 1 ≤ e) (hk1 : 1 ≤ k1) : XR ord O A nw a e (k1 + k2) (Do c D1 D2) := by
  intro sh g n F E w h1 h2 h3 h4 h5 h6 h7 h8
  obtain ⟨n1, s1⟩ := c1 sh g n F E w (RC_mo h1 (Nat.le_refl _) (by omega)) h2 h3 (by omega) (by omega) h6 h7 h8
  unfold Do
  cases q1 : D1 w with
  | none => exact ⟨fun _ => n1 q1, fun v z => (nomatch z)⟩
  | some x =>
    obtain ⟨g1, F1, b1, b2, b3, b4, b5⟩ := s1 x q1
    obtain ⟨f, rfl⟩ : ∃ f, F1 = f + 1 := ⟨F1 - 1, by omega⟩
    have key : f_X11_reckonAll_10 sh (f + 1) g1 (Int32.ofNat E) (Int32.ofNat (n + 1)) (Int32.ofNat m) = if x = c then f_X11_reckonAll_10 sh f g1 (Int32.ofNat E) (Int32.ofNat (n + 1)) (Int32.ofNat e) else f_X11_reckonAll_10 sh f g1 (Int32.ofNat E) (Int32.ofNat n) (Int32.ofNat (m + 1)) := by
      rw [xr_0 (RC_fr (RC_mo h1 ham (Nat.le_refl _)) b2) (by omega) h5 h6 b4, hA]
      have k336 : ∀ z : Int64, z = c.toInt64 → f_X11_reckonAll_336 sh (fun w w0 w1 w2 => f_X11_reckonAll_350 sh (fun w w0 w1 w2 => f_X11_reckonAll_10 sh f w w0 w1 w2) w w0 w1 w2) g1 (Int32.ofNat E) (Int32.ofNat (n + 1)) (Int32.ofNat m + 1) (Int32.ofNat e) z x.toInt64 = if x = c then f_X11_reckonAll_10 sh f g1 (Int32.ofNat E) (Int32.ofNat (n + 1)) (Int32.ofNat e) else f_X11_reckonAll_10 sh f g1 (Int32.ofNat E) (Int32.ofNat n) (Int32.ofNat (m + 1)) := by
        intro z hz
        unfold f_X11_reckonAll_336 f_X11_reckonAll_350
        rw [neg1, o_succ, hz]
        by_cases q : x = c
        · rw [if_pos ((lg_cmp_eq _ _).2 (t64.2 q)), if_pos q]
        · rw [if_neg (fun y => q (t64.1 ((lg_cmp_eq _ _).1 y))), if_neg q]
      unfold f_X11_reckonAll_95
      rcases ho with ⟨o1, o2⟩ | ⟨o1, o2⟩
      · rw [o1, if_pos (by decide), if_pos (by decide), if_neg (by decide), o_pred, gb_ck_s (o_in (by omega) (by omega)), if_neg (by decide), o_cl (by omega), b3]
        exact k336 1 (by rw [o2]; rfl)
      · rw [o1, if_pos (by decide), if_pos (by decide), if_neg (by decide), o_pred, gb_ck_s (o_in (by omega) (by omega)), if_pos rfl, o_cl (by omega), b3]
        exact k336 0 (by rw [o2]; rfl)
    rw [b5, key]
    simp only []
    by_cases q : x = c
    · rw [if_pos q, if_pos q]
      refine ⟨fun z => (nomatch z), fun v z => ?_⟩
      cases z
      exact ⟨g1, f, by omega, b2, by rw [b3, q], b4, rfl⟩
    · rw [if_neg q, if_neg q]
      obtain ⟨n2, s2⟩ := c2 sh g1 n f E w (RC_fr (RC_mo h1 (show a ≤ m + 1 by omega) (Nat.le_refl _)) b2) (RW_fr h2 b2) h3 (by omega) (by omega) h6 (by omega) b4
      refine ⟨n2, fun v z => ?_⟩
      obtain ⟨g2, F2, d1, d2, d3, d4, d5⟩ := s2 v z
      exact ⟨g2, F2, d1, b2.tr d2 (Nat.le_refl _), d3, d4, d5⟩
