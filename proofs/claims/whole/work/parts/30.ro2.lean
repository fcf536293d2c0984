/-! ===== loops, and calls that only tell: fair, gets, drawn ===== -/
theorem gb_wh {S β : Type} (F : Nat → S → Option β) (I : S → Prop) (mu : S → Nat) (P : β → Prop)
    (step : ∀ n s, I s → (∀ s', I s' → mu s' < mu s → gb_T (F n s') P) → gb_T (F (n + 1) s) P) : ∀ fuel s, mu s < fuel → I s → gb_T (F fuel s) P := by
  intro fuel
  induction fuel with
  | zero => intro s h _; omega
  | succ n ih => intro s h hI; exact step n s hI fun s' hI' hlt => ih s' (by omega) hI'
theorem ro_b {α : Type} {sh : List gb_Sh} {g : gb_G} {f1 : Option (gb_G × α)} {f2 : gb_G → Option (gb_G × α)} {W1 W2 : Nat → Nat → Prop} (V : α) (hI : gb_I sh g) (h1 : gb_T f1 (fun o => o.2 = V)) (w1 : ∀ o, f1 = some o → gb_Fr W1 g o.1) (s1 : ∀ c k, W1 c k → scr c k) (h2 : ∀ g1, gb_Fr scr g g1 → gb_T (f2 g1) (fun o => o.2 = V)) (w2 : ∀ g1 o, f2 g1 = some o → gb_Fr W2 g1 o.1) (s2 : ∀ c k, W2 c k → scr c k) : ∃ o1 o2 : gb_G × α, f1 = some o1 ∧ f2 o1.1 = some o2 ∧ o1.2 = o2.2 ∧ gb_I sh o2.1 := by
  obtain ⟨o1, e1, v1⟩ := h1
  have F1 := (w1 o1 e1).up s1
  obtain ⟨o2, e2, v2⟩ := h2 o1.1 F1
  exact ⟨o1, o2, e1, e2, v1.trans v2.symm, ro_I hI F1 (w2 _ _ e2) (fun c k q => q) s2⟩
theorem iB_s {sh : List gb_Sh} {g g1 : gb_G} {β : ms_B} (h : iB sh g β) (F : gb_Fr scr g g1) : iB sh g1 β :=
  iB_fr h fun c k q => F c k fun s => by unfold scr at s; omega
theorem s_F (c k : Nat) (h : False) : scr c k := h.elim
/-! FAIR -/
def ms_abs (x : Int32) : Int32 := if 0 ≤ x then x else -x
def ms_off (O : Nat → Int32) (w : Int32) : Nat → Int32
  | 0 => 0
  | n + 1 => ms_off O w n + ms_abs (O n - w)
def ms_fb (off : Nat → Int32) : Nat → Int32 × Int32
  | 0 => (-1, 100000000)
  | n + 1 => if off n < (ms_fb off n).2 then (Int32.ofNat n, off n) else ms_fb off n
theorem x64' (p i : Nat) : 64 + 8 * Int32.ofNat p + Int32.ofNat i = Int32.ofNat (64 + 8 * p + i) := by
  rw [show (64 : Int32) = Int32.ofNat 64 from rfl, show (8 : Int32) = Int32.ofNat 8 from rfl, o_mul, o_add, o_add]
theorem fair_c1 {sh : List gb_Sh} {g : gb_G} {P i : Nat} {O : Nat → Int32} {K : gb_G → Int32 → Int32 → Int32 → Int32 → Int32 → Option (gb_G × Int32)} {y2 y3 y4 y5 : Int32} (hP : P ≤ 5) (hi : i < 8) (h0 : g.1 1 2 = Int32.ofNat P) (hO : ∀ q, q < 5 → g.1 3 (8 * q + i) = O q) : ∀ m p fuel, p + m = P → m < fuel →
    f_X10_fair_43 sh K fuel g (Int32.ofNat i) y2 y3 y4 y5 (ms_off O y5 p) (Int32.ofNat p) = if y3 = -1 ∨ ms_off O y5 P < y4 then K g (Int32.ofNat i) y2 y5 (ms_off O y5 P) (y5 + 1) else K g (Int32.ofNat i) y2 y3 y4 (y5 + 1) := by
  intro m
  induction m with
  | zero =>
    intro p fuel h hf
    obtain ⟨f, rfl⟩ : ∃ f, fuel = f + 1 := ⟨fuel - 1, by omega⟩
    have e : p = P := by omega
    subst e
    rw [f_X10_fair_43, if_pos (by rw [h0]; exact Int32.le_refl _)]
    by_cases h3 : y3 = -1
    · rw [if_pos h3, if_pos (Or.inl h3)]; rfl
    · rw [if_neg h3]
      by_cases h4 : y4 ≤ ms_off O y5 p
      · rw [if_pos h4, if_neg]
        · rfl
        · intro q
          rcases q with q | q
          · exact h3 q
          · rw [Int32.le_iff_toInt_le] at h4; rw [Int32.lt_iff_toInt_lt] at q; omega
      · rw [if_neg h4, if_pos]
        · rfl
        · refine Or.inr ?_
          rw [Int32.le_iff_toInt_le] at h4; rw [Int32.lt_iff_toInt_lt]; omega
  | succ m ih =>
    intro p fuel h hf
    obtain ⟨f, rfl⟩ : ∃ f, fuel = f + 1 := ⟨fuel - 1, by omega⟩
    rw [f_X10_fair_43, if_neg (by rw [h0, o_le (by omega) (by omega)]; omega), ow_t (b := 1) (by omega) hi, gb_bd_s]
    simp only []
    rw [hO p (by omega)]
    have e : f_J9_abs_0f7a4 sh g (O p - y5) = some (g, ms_abs (O p - y5)) := by
      unfold f_J9_abs_0f7a4 ms_abs
      split <;> rfl
    rw [e, gb_bd_s, o_succ]
    exact ih (p + 1) f (by omega) (by omega)
theorem ms_fb_j (off : Nat → Int32) (h : off 0 < 100000000) : ∀ k, 1 ≤ k → ∃ j, j < k ∧ (ms_fb off k).1 = Int32.ofNat j := by
  intro k
  induction k with
  | zero => intro h; omega
  | succ k ih =>
    intro _
    rw [ms_fb]
    by_cases e : k = 0
    · subst e
      rw [ms_fb, if_pos h]
      exact ⟨0, by omega, rfl⟩
    · split
      · exact ⟨k, by omega, rfl⟩
      · obtain ⟨j, hj, q⟩ := ih (by omega)
        exact ⟨j, by omega, q⟩
theorem o_ne1 {j : Nat} (h : j < 2147483648) : ¬ Int32.ofNat j = -1 := by
  intro q
  have := congrArg Int32.toInt q
  rw [o_int h, show (-1 : Int32).toInt = -1 from rfl] at this
  omega
theorem fair_c2 {sh : List gb_Sh} {g : gb_G} {P i : Nat} {O : Nat → Int32} {x2 : Int32} (hP : P ≤ 5) (hi : i < 8) (h0 : g.1 1 2 = Int32.ofNat P) (hO : ∀ q, q < 5 → g.1 3 (8 * q + i) = O q) (hb : ms_off O 0 P < 100000000) : ∀ m k fuel, k + m = 10 → m < fuel →
    f_X10_fair_30 sh fuel g (Int32.ofNat i) x2 (ms_fb (fun k => ms_off O (Int32.ofNat k) P) k).1 (if k = 0 then 0 else (ms_fb (fun k => ms_off O (Int32.ofNat k) P) k).2) (Int32.ofNat k) = some (g, if x2 = 0 then (ms_fb (fun k => ms_off O (Int32.ofNat k) P) 10).1 else (ms_fb (fun k => ms_off O (Int32.ofNat k) P) 10).2) := by
  intro m
  induction m with
  | zero =>
    intro k fuel h hf
    obtain ⟨f, rfl⟩ : ∃ f, fuel = f + 1 := ⟨fuel - 1, by omega⟩
    have e : k = 10 := by omega
    subst e
    rw [f_X10_fair_30, if_pos (by decide), if_neg (show ¬ (10 : Nat) = 0 by omega)]
    by_cases c : x2 = 0
    · rw [if_pos c, if_pos c]
    · rw [if_neg c, if_neg c]
  | succ m ih =>
    intro k fuel h hf
    obtain ⟨f, rfl⟩ : ∃ f, fuel = f + 1 := ⟨fuel - 1, by omega⟩
    rw [f_X10_fair_30, if_neg (by rw [show (9 : Int32) = Int32.ofNat 9 from rfl, o_lt (by omega) (by omega)]; omega)]
    have e := fair_c1 (sh := sh) (g := g) (P := P) (i := i) (O := O) (K := fun w w0 w1 w2 w3 w4 => f_X10_fair_30 sh f w w0 w1 w2 w3 w4) (y2 := x2) (y3 := (ms_fb (fun k => ms_off O (Int32.ofNat k) P) k).1) (y4 := if k = 0 then 0 else (ms_fb (fun k => ms_off O (Int32.ofNat k) P) k).2) (y5 := Int32.ofNat k) hP hi h0 hO P 0 gb_N (by omega) (by unfold gb_N; omega)
    refine Eq.trans e ?_
    have ih2 := ih (k + 1) f (by omega) (by omega)
    rw [if_neg (by omega), ms_fb] at ih2
    by_cases ek : k = 0
    · subst ek
      rw [if_pos (Or.inl (show (ms_fb (fun k => ms_off O (Int32.ofNat k) P) 0).1 = -1 from rfl)), o_succ]
      rw [ms_fb, if_pos (show ms_off O (Int32.ofNat 0) P < ((-1, 100000000) : Int32 × Int32).2 from hb)] at ih2
      exact ih2
    · rw [if_neg ek, o_succ]
      obtain ⟨j, hj, q⟩ := ms_fb_j (fun k => ms_off O (Int32.ofNat k) P) hb k (by omega)
      have q2 : ¬ (ms_fb (fun k => ms_off O (Int32.ofNat k) P) k).1 = -1 := by rw [q]; exact o_ne1 (by omega)
      by_cases c : ms_off O (Int32.ofNat k) P < (ms_fb (fun k => ms_off O (Int32.ofNat k) P) k).2
      · rw [if_pos (Or.inr c)]
        rw [if_pos c] at ih2
        exact ih2
      · rw [if_neg (fun z => z.elim q2 c)]
        rw [if_neg c] at ih2
        exact ih2
theorem fair_m1 {sh : List gb_Sh} {g : gb_G} {P i : Nat} {O : Nat → Int32} {K : gb_G → Int32 → Int32 → Int32 → Int32 → Int32 → Option (gb_G × Int32)} {y2 y3 y4 y5 : Int32} (hP : P ≤ 5) (hi : i < 8) (h0 : g.1 79 1 = Int32.ofNat P) (hO : ∀ q, q < P → g.1 79 (64 + 8 * q + i) = O q) : ∀ m p fuel, p + m = P → m < fuel →
    f_X11_fair_48 sh K fuel g (Int32.ofNat i) y2 y3 y4 y5 (ms_off O y5 p) (Int32.ofNat p) = if ms_off O y5 P < y3 then K g (Int32.ofNat i) y2 (ms_off O y5 P) y5 (y5 + 1) else K g (Int32.ofNat i) y2 y3 y4 (y5 + 1) := by
  intro m
  induction m with
  | zero =>
    intro p fuel h hf
    obtain ⟨f, rfl⟩ : ∃ f, fuel = f + 1 := ⟨fuel - 1, by omega⟩
    have e : p = P := by omega
    subst e
    rw [f_X11_fair_48, if_pos (by rw [h0]; exact Int32.le_refl _)]
    unfold f_X11_fair_116 f_X11_fair_130
    by_cases h4 : y3 ≤ ms_off O y5 p
    · have h5 : ¬ ms_off O y5 p < y3 := by rw [Int32.le_iff_toInt_le] at h4; rw [Int32.lt_iff_toInt_lt]; omega
      rw [if_pos h4, if_pos h4, if_neg h5]
    · have h5 : ms_off O y5 p < y3 := by rw [Int32.le_iff_toInt_le] at h4; rw [Int32.lt_iff_toInt_lt]; omega
      rw [if_neg h4, if_neg h4, if_pos h5]
  | succ m ih =>
    intro p fuel h hf
    obtain ⟨f, rfl⟩ : ∃ f, fuel = f + 1 := ⟨fuel - 1, by omega⟩
    rw [f_X11_fair_48, if_neg (by rw [h0, o_le (by omega) (by omega)]; omega), x64', gb_ck_s (o_in (by omega) (by omega)), o_cl (by omega), hO p (by omega)]
    unfold f_X11_fair_94
    have ih2 := ih (p + 1) f (by omega) (by omega)
    rw [ms_off, ms_abs] at ih2
    rw [o_succ]
    by_cases c : 0 ≤ O p - y5
    · rw [if_pos c]; rw [if_pos c] at ih2; exact ih2
    · rw [if_neg c]; rw [if_neg c] at ih2; exact ih2
theorem fair_m2 {sh : List gb_Sh} {g : gb_G} {P i : Nat} {O : Nat → Int32} {x2 : Int32} (hP : P ≤ 5) (hi : i < 8) (h0 : g.1 79 1 = Int32.ofNat P) (hO : ∀ q, q < P → g.1 79 (64 + 8 * q + i) = O q) : ∀ m k fuel, k + m = 10 → m < fuel →
    f_X11_fair_35 sh fuel g (Int32.ofNat i) x2 (ms_fb (fun k => ms_off O (Int32.ofNat k) P) k).2 (ms_fb (fun k => ms_off O (Int32.ofNat k) P) k).1 (Int32.ofNat k) = some (g, if x2 = 0 then (ms_fb (fun k => ms_off O (Int32.ofNat k) P) 10).1 else (ms_fb (fun k => ms_off O (Int32.ofNat k) P) 10).2) := by
  intro m
  induction m with
  | zero =>
    intro k fuel h hf
    obtain ⟨f, rfl⟩ : ∃ f, fuel = f + 1 := ⟨fuel - 1, by omega⟩
    have e : k = 10 := by omega
    subst e
    rw [f_X11_fair_35, if_pos (by decide)]
    by_cases c : x2 = 0
    · rw [if_pos c, if_pos c]
    · rw [if_neg c, if_neg c]
  | succ m ih =>
    intro k fuel h hf
    obtain ⟨f, rfl⟩ : ∃ f, fuel = f + 1 := ⟨fuel - 1, by omega⟩
    rw [f_X11_fair_35, if_neg (by rw [show (10 : Int32) = Int32.ofNat 10 from rfl, o_le (by omega) (by omega)]; omega)]
    have e := fair_m1 (sh := sh) (g := g) (P := P) (i := i) (O := O) (K := fun w w0 w1 w2 w3 w4 => f_X11_fair_35 sh f w w0 w1 w2 w3 w4) (y2 := x2) (y3 := (ms_fb (fun k => ms_off O (Int32.ofNat k) P) k).2) (y4 := (ms_fb (fun k => ms_off O (Int32.ofNat k) P) k).1) (y5 := Int32.ofNat k) hP hi h0 hO P 0 gb_N (by omega) (by unfold gb_N; omega)
    refine Eq.trans e ?_
    have ih2 := ih (k + 1) f (by omega) (by omega)
    rw [ms_fb] at ih2
    rw [o_succ]
    by_cases c : ms_off O (Int32.ofNat k) P < (ms_fb (fun k => ms_off O (Int32.ofNat k) P) k).2
    · rw [if_pos c]
      rw [if_pos c] at ih2
      exact ih2
    · rw [if_neg c]
      rw [if_neg c] at ih2
      exact ih2
theorem off_b {O : Nat → Int32} {n : Nat} (hn : n ≤ 5) (h : ∀ q, q < n → im 0 9 (O q)) : im 0 (9 * n) (ms_off O 0 n) := by
  induction n with
  | zero => rw [ms_off]; exact ⟨by decide, by decide⟩
  | succ n ih =>
    have a := ih (by omega) fun q hq => h q (by omega)
    have b := h n (by omega)
    have e : ms_abs (O n - 0) = O n := by
      rw [Int32.sub_zero, ms_abs, if_pos (by rw [Int32.le_iff_toInt_le, Int32.toInt_zero]; exact b.1)]
    rw [im] at *
    rw [ms_off, e, i_add (by omega) (by omega)]
    omega
theorem p_fair : ps_fair gb_I := by
  intro sh g x1 x2 hI
  obtain ⟨β, ⟨hw, hc, hm⟩, -⟩ := hI.2.2.2.2.2.2.2.2
  have hB : iB sh g β := ⟨hw, hc, hm⟩
  have hn := hw.1
  have hP := hw.2.1
  by_cases h1 : im 0 ((bN β : Int) - 1) x1
  · by_cases h2 : im 0 1 x2
    · obtain ⟨i, hi, rfl⟩ := o_of h1
      have hb : ms_off (fun q => bO β q i) 0 (bP β) < 100000000 := by
        have := off_b hP fun q hq => hw.2.2.2.2.2.2.2.1 q i hq hi
        rw [im] at this
        rw [Int32.lt_iff_toInt_lt, show (100000000 : Int32).toInt = 100000000 from rfl]
        omega
      refine ro_b (f2 := fun g1 => f_X11_fair sh g1 _ _) (if x2 = 0 then (ms_fb (fun k => ms_off (fun q => bO β q i) (Int32.ofNat k) (bP β)) 10).1 else (ms_fb (fun k => ms_off (fun q => bO β q i) (Int32.ofNat k) (bP β)) 10).2) hI ?_ (fun o => w_X10_fair) s_F ?_ (fun g1 o => w_X11_fair) scr770
      · have e1 : f_X10_fair sh g (Int32.ofNat i) x2 = some (g, if x2 = 0 then (ms_fb (fun k => ms_off (fun q => bO β q i) (Int32.ofNat k) (bP β)) 10).1 else (ms_fb (fun k => ms_off (fun q => bO β q i) (Int32.ofNat k) (bP β)) 10).2) := by
          unfold f_X10_fair
          rw [has_t hn hc.1 h1, bt, within_t h2 rfl rfl, bt]
          exact fair_c2 (O := fun q => bO β q i) hP (by omega) hc.2.2.1 (fun q hq => hc.2.2.2.1 q i hq (by omega)) hb 10 0 gb_N (by omega) (by unfold gb_N; omega)
        exact ⟨_, e1, rfl⟩
      · intro g1 F1
        obtain ⟨-, -, hm1⟩ := iB_s hB F1
        have e1 : f_X11_fair sh g1 (Int32.ofNat i) x2 = some (gb_pi g1 77 0 0, if x2 = 0 then (ms_fb (fun k => ms_off (fun q => bO β q i) (Int32.ofNat k) (bP β)) 10).1 else (ms_fb (fun k => ms_off (fun q => bO β q i) (Int32.ofNat k) (bP β)) 10).2) := by
          unfold f_X11_fair
          rw [gb_let_s, isGood_t (g := gb_pi g1 77 0 0) (n := bN β) hn hm1.1 h1, bt, in_t h2 rfl rfl, bt]
          exact fair_m2 (g := gb_pi g1 77 0 0) (O := fun q => bO β q i) hP (by omega) hm1.2.2.1 (fun q hq => hm1.2.2.2.1 q i hq hi) 10 0 gb_N (by omega) (by unfold gb_N; omega)
        exact ⟨_, e1, rfl⟩
    · refine ⟨(g, -1), (gb_pi g 77 0 0, -1), ?_, ?_, rfl, I770 hI⟩
      · unfold f_X10_fair
        rw [has_t hn hc.1 h1, bt, within_f h2 rfl rfl, bf]
      · show f_X11_fair sh g _ _ = _
        unfold f_X11_fair
        rw [gb_let_s, isGood_t (g := gb_pi g 77 0 0) (n := bN β) hn hm.1 h1, bt, in_f h2 rfl rfl, bf]
  · refine ⟨(g, -1), (gb_pi g 77 0 0, -1), ?_, ?_, rfl, I770 hI⟩
    · unfold f_X10_fair
      rw [has_f hn hc.1 h1, bf]
    · show f_X11_fair sh g _ _ = _
      unfold f_X11_fair
      rw [gb_let_s, isGood_f (g := gb_pi g 77 0 0) (n := bN β) hn hm.1 h1, bf]
/-! DRAWN -/
theorem p_drawn : ps_drawn gb_I := by
  intro sh g x1 x2 hI
  obtain ⟨n, hn, d1, d2, d3⟩ := hI.2.2.2.2.2.2.1
  have hI' := I770 hI
  by_cases h1 : im 0 ((n : Int) - 1) x1
  · obtain ⟨i, hi, rfl⟩ := o_of h1
    have e55 : g.1 77 55 = Int32.ofNat n := by
      rcases d2 with d2 | d2
      · exact d2
      · omega
    have rdx : ∀ j : Nat, j < 7 → f_X0_read sh g 13 (Int32.ofNat i) (Int32.ofNat j) = some (g, g.1 14 (7 * i + j)) := by
      intro j hj
      unfold f_X0_read f_X0_read_27
      rw [if_neg, if_neg, if_neg, if_neg, if_neg, x7, gb_ck_s (o_in (by omega) (by omega)), o_cl (by omega)]
      · decide
      · rw [show (7 : Int32) = Int32.ofNat 7 from rfl, o_le (by omega) (by omega)]; omega
      · rw [show (0 : Int32) = Int32.ofNat 0 from rfl, o_lt (by omega) (by omega)]; omega
      · rw [d1, o_le (by omega) (by omega)]; omega
      · rw [show (0 : Int32) = Int32.ofNat 0 from rfl, o_lt (by omega) (by omega)]; omega
    by_cases h2 : im 0 1 x2
    · obtain ⟨j, hj, rfl⟩ := o_of (n := 2) h2
      have hm : f_X11_drawn sh g (Int32.ofNat i) (Int32.ofNat j) = some (gb_pi g 77 0 0, g.1 104 (8 * j + i)) := by
        unfold f_X11_drawn
        rw [gb_let_s, show (gb_pi g 77 0 0).1 77 55 = g.1 77 55 from rfl, e55, in_t h1 rfl (n_predl (by omega)), bt, in_t h2 rfl rfl, bt]
        rw [show (8 : Int32) = Int32.ofNat 8 from rfl, o_mul, o_add, gb_ck_s (o_in (by omega) (by omega)), o_cl (by omega)]
        rfl
      have hj' : j = 0 ∨ j = 1 := by omega
      rcases hj' with rfl | rfl
      · refine ⟨(g, g.1 14 (7 * i + 1)), _, ?_, hm, ?_, hI'⟩
        · unfold f_X10_drawn f_X10_drawn_25
          rw [within_t h2 rfl rfl, bt, if_pos (by decide), show (1 : Int32) = Int32.ofNat 1 from rfl, rdx 1 (by omega)]
          rfl
        · show g.1 14 (7 * i + 1) = g.1 104 (8 * 0 + i)
          rw [(d3 i hi).1, Nat.mul_zero, Nat.zero_add]
      · refine ⟨(g, g.1 14 (7 * i + 5)), _, ?_, hm, ?_, hI'⟩
        · unfold f_X10_drawn f_X10_drawn_25
          rw [within_t h2 rfl rfl, bt, if_neg (by decide), show (5 : Int32) = Int32.ofNat 5 from rfl, rdx 5 (by omega)]
          rfl
        · exact (d3 i hi).2
    · refine ⟨(g, -1), (gb_pi g 77 0 0, -1), ?_, ?_, rfl, hI'⟩
      · unfold f_X10_drawn
        rw [within_f h2 rfl rfl, bf]
      · show f_X11_drawn sh g _ _ = _
        unfold f_X11_drawn
        rw [gb_let_s, show (gb_pi g 77 0 0).1 77 55 = g.1 77 55 from rfl, e55, in_t h1 rfl (n_predl (by omega)), bt, in_f h2 rfl rfl, bf]
  · have hm : f_X11_drawn sh g x1 x2 = some (gb_pi g 77 0 0, -1) := by
      unfold f_X11_drawn
      rw [gb_let_s, show (gb_pi g 77 0 0).1 77 55 = g.1 77 55 from rfl]
      rcases d2 with d2 | ⟨d2, d4⟩
      · rw [d2, in_f h1 rfl (n_predl (by omega)), bf]
      · rw [d2, in_f (lo := 0) (hi := -2) (fun q => by rw [im] at q; omega) rfl (by decide), bf]
    refine ⟨(g, -1), _, ?_, hm, rfl, hI'⟩
    unfold f_X10_drawn f_X10_drawn_25
    have rf : ∀ y : Int32, f_X0_read sh g 13 x1 y = some (g, -1) := by
      intro y
      unfold f_X0_read
      by_cases q1 : x1 < 0
      · rw [if_pos q1]; rfl
      · rw [if_neg q1, if_pos]
        · rfl
        · rw [d1, Int32.le_iff_toInt_le, o_int (by omega)]
          rw [Int32.lt_iff_toInt_lt, Int32.toInt_zero] at q1
          rw [im] at h1
          omega
    by_cases h2 : im 0 1 x2
    · rw [within_t h2 rfl rfl, bt, rf, rf]
      split <;> rfl
    · rw [within_f h2 rfl rfl, bf]
