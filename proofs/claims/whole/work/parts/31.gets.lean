/-! ===== GETS ===== -/
def ms_gs (r : Int32) (c : Nat → Int64) (p : Nat) : Int64 := if p = 12 then c 12 + c 11 * r.toInt64 / 10 else if p = 1 then c 1 * (10 - r).toInt64 / 10 else c p * (10 - r).toInt64 / 10 + c (p - 1) * r.toInt64 / 10
def ms_gi (r : Int32) (c : Nat → Int64) : Nat → Nat → Int64
  | 0 => c
  | n + 1 => ms_gs r (ms_gi r c n)
def ms_g0 (w : Nat) (p : Nat) : Int64 := if p = w then 1000000000000 else 0
theorem gets_c1 {sh : List gb_Sh} {K : gb_G → Int32 → Int32 → Int32 → Option (gb_G × Int64)} {r y3 y4 : Int32} {c : Nat → Int64} {P : gb_G × Int64 → Prop} (hK : ∀ g : gb_G, g.2.1 73 0 = 0 → (∀ q, 1 ≤ q → q ≤ 12 → g.2.1 73 q = ms_gs r c q) → gb_T (K g r y3 (y4 + 1)) P) : ∀ (p fuel : Nat) (g : gb_G), p ≤ 11 → p < fuel → g.2.1 73 0 = 0 → (∀ q, 1 ≤ q → q ≤ p → g.2.1 73 q = c q) → (∀ q, p < q → q ≤ 12 → g.2.1 73 q = ms_gs r c q) → gb_T (f_X6_partsAtTop_60 sh K fuel g r y3 y4 (Int32.ofNat p)) P := by
  intro p
  induction p with
  | zero =>
    intro fuel g hp hf h0 h1 h2
    obtain ⟨f, rfl⟩ : ∃ f, fuel = f + 1 := ⟨fuel - 1, by omega⟩
    rw [f_X6_partsAtTop_60, if_pos (by decide)]
    exact hK g h0 fun q a b => h2 q (by omega) b
  | succ p ih =>
    intro fuel g hp hf h0 h1 h2
    obtain ⟨f, rfl⟩ : ∃ f, fuel = f + 1 := ⟨fuel - 1, by omega⟩
    rw [f_X6_partsAtTop_60, if_neg (by rw [show (1 : Int32) = Int32.ofNat 1 from rfl, o_lt (by omega) (by omega)]; omega), o_pred, gb_ck_s (o_in (by omega) (by omega)), gb_ck_s (o_in (by omega) (by omega)), gb_ck_s (o_in (by omega) (by omega)), gb_let_s, o_cl (by omega), o_cl (by omega), show Int32.ofNat (p + 1) + (-1) = Int32.ofNat p from by rw [← Int32.sub_eq_add_neg]; exact o_pred]
    refine ih f _ (by omega) (by omega) ?_ ?_ ?_
    · rw [pj_n (by omega)]; exact h0
    · intro q a b
      rw [pj_n (by omega)]; exact h1 q a (by omega)
    · intro q a b
      by_cases e : q = p + 1
      · subst e
        rw [pj_e, h1 (p + 1) (by omega) (by omega), ms_gs, if_neg (by omega)]
        by_cases e1 : p = 0
        · subst e1
          rw [if_pos rfl, h0, Int64.zero_mul, Int64.zero_div, Int64.add_zero]
        · rw [if_neg (by omega), h1 p (by omega) (by omega)]; rfl
      · rw [pj_n (by omega)]; exact h2 q (by omega) b
theorem gets_c2 {sh : List gb_Sh} {r : Int32} {c : Nat → Int64} {n : Nat} (hn : n ≤ 60) : ∀ (m k fuel : Nat) (g : gb_G), k + m = n → m < fuel → g.2.1 73 0 = 0 → (∀ q, 1 ≤ q → q ≤ 12 → g.2.1 73 q = ms_gi r c k q) → gb_T (f_X6_partsAtTop_26 sh fuel g r (Int32.ofNat n) (Int32.ofNat k)) (fun o => o.2 = ms_gi r c n 12) := by
  intro m
  induction m with
  | zero =>
    intro k fuel g h hf h0 h1
    obtain ⟨f, rfl⟩ : ∃ f, fuel = f + 1 := ⟨fuel - 1, by omega⟩
    have e : k = n := by omega
    subst e
    rw [f_X6_partsAtTop_26, if_pos (Int32.le_refl _)]
    exact ⟨_, rfl, h1 12 (by omega) (by omega)⟩
  | succ m ih =>
    intro k fuel g h hf h0 h1
    obtain ⟨f, rfl⟩ : ∃ f, fuel = f + 1 := ⟨fuel - 1, by omega⟩
    rw [f_X6_partsAtTop_26, if_neg (by rw [o_le (by omega) (by omega)]; omega), gb_let_s]
    refine gets_c1 (c := ms_gi r c k) ?_ 11 gb_N _ (by omega) (by unfold gb_N; omega) ?_ ?_ ?_
    · intro g' a0 a1
      show gb_T (f_X6_partsAtTop_26 sh f g' r (Int32.ofNat n) (Int32.ofNat k + 1)) _
      rw [o_succ]
      exact ih (k + 1) f g' (by omega) (by omega) a0 a1
    · rw [pj_n (by omega)]; exact h0
    · intro q a b
      rw [pj_n (by omega)]; exact h1 q a (by omega)
    · intro q a b
      have e : q = 12 := by omega
      subst e
      rw [pj_e, ms_gs, if_pos rfl, h1 12 (by omega) (by omega), h1 11 (by omega) (by omega)]
theorem fill_l {sh : List gb_Sh} {a1 n1 : Nat} {y : Int64} (hn : n1 < 1000) : ∀ (m i fuel : Nat) (g : gb_G), i + m = n1 → m < fuel → gb_T (f_J7_fill_d0a16_6 sh a1 n1 fuel g y (Int32.ofNat i) (Int32.ofNat n1)) (fun o => (∀ q, i ≤ q → q < n1 → o.2.1 a1 q = y) ∧ ∀ q, q < i → o.2.1 a1 q = g.2.1 a1 q) := by
  intro m
  induction m with
  | zero =>
    intro i fuel g h hf
    obtain ⟨f, rfl⟩ : ∃ f, fuel = f + 1 := ⟨fuel - 1, by omega⟩
    have e : i = n1 := by omega
    subst e
    rw [f_J7_fill_d0a16_6, if_pos (Int32.le_refl _)]
    exact ⟨_, rfl, fun q a b => by omega, fun q _ => rfl⟩
  | succ m ih =>
    intro i fuel g h hf
    obtain ⟨f, rfl⟩ : ∃ f, fuel = f + 1 := ⟨fuel - 1, by omega⟩
    rw [f_J7_fill_d0a16_6, if_neg (by rw [o_le (by omega) (by omega)]; omega), gb_ck_s (o_in (by omega) (by omega)), gb_let_s, o_cl (by omega), o_succ]
    obtain ⟨o, e, a, b⟩ := ih (i + 1) f (gb_pj g a1 i y) (by omega) (by omega)
    refine ⟨o, e, fun q q1 q2 => ?_, fun q q1 => ?_⟩
    · by_cases eq : q = i
      · subst eq; rw [b q (by omega), pj_e]
      · exact a q (by omega) q2
    · rw [b q (by omega), pj_n (by omega)]
def ms_near (x lo hi : Int32) : Int32 := if lo < (if x < hi then x else hi) then (if x < hi then x else hi) else lo
theorem near_e {sh : List gb_Sh} {g : gb_G} {x a b : Int32} : f_X10_nearest sh g x a b = some (g, ms_near x a b) := by
  unfold f_X10_nearest f_J9_min_7cf53 f_J9_max_7cf53 ms_near
  by_cases c1 : x < b
  · rw [if_pos c1, if_pos c1, gb_bd_s]
    by_cases c2 : a < x
    · simp only [if_pos c2]; rfl
    · simp only [if_neg c2]; rfl
  · rw [if_neg c1, if_neg c1, gb_bd_s]
    by_cases c2 : a < b
    · simp only [if_pos c2]; rfl
    · simp only [if_neg c2]; rfl
theorem near_id {x a b : Int32} {lo hi : Int} (h : im lo hi x) (ha : a.toInt = lo) (hb : b.toInt = hi) : ms_near x a b = x := by
  obtain ⟨h1, h2⟩ := h
  have e1 : (if x < b then x else b) = x := by
    by_cases c : x < b
    · rw [if_pos c]
    · rw [if_neg c]; rw [Int32.lt_iff_toInt_lt] at c; exact Int32.toInt_inj.1 (by omega)
  rw [ms_near, e1]
  by_cases c : a < x
  · rw [if_pos c]
  · rw [if_neg c]; rw [Int32.lt_iff_toInt_lt] at c; exact Int32.toInt_inj.1 (by omega)
theorem near_t {sh : List gb_Sh} {g : gb_G} {x a b : Int32} {lo hi : Int} (h : im lo hi x) (ha : a.toInt = lo) (hb : b.toInt = hi) : f_X10_nearest sh g x a b = some (g, x) := by
  rw [near_e, near_id h ha hb]
theorem gets_m1 {sh : List gb_Sh} {K : gb_G → Int32 → Int32 → Int32 → Option (gb_G × Int64)} {r y2 y4 : Int32} {c : Nat → Int64} {P : gb_G × Int64 → Prop} (hK : ∀ g : gb_G, (∀ q, 1 ≤ q → q ≤ 12 → g.2.1 101 q = ms_gs r c q) → gb_T (K g y2 r (y4 + 1)) P) : ∀ (p fuel : Nat) (g : gb_G), p ≤ 11 → p < fuel → (∀ q, 1 ≤ q → q ≤ p → g.2.1 101 q = c q) → g.2.1 101 (p + 1) = (if p = 11 then c 12 else c (p + 1) * (10 - r).toInt64 / 10) → (∀ q, p + 1 < q → q ≤ 12 → g.2.1 101 q = ms_gs r c q) → gb_T (f_X11_gets_90 sh K fuel g y2 r y4 (Int32.ofNat p)) P := by
  intro p
  induction p with
  | zero =>
    intro fuel g hp hf h1 h3 h2
    obtain ⟨f, rfl⟩ : ∃ f, fuel = f + 1 := ⟨fuel - 1, by omega⟩
    rw [f_X11_gets_90, if_pos (by decide)]
    refine hK g fun q a b => ?_
    by_cases e : q = 1
    · subst e
      rw [h3, if_neg (by omega), ms_gs, if_neg (by omega), if_pos rfl]
    · exact h2 q (by omega) b
  | succ p ih =>
    intro fuel g hp hf h1 h3 h2
    obtain ⟨f, rfl⟩ : ∃ f, fuel = f + 1 := ⟨fuel - 1, by omega⟩
    rw [f_X11_gets_90, if_neg (by rw [show (0 : Int32) = Int32.ofNat 0 from rfl, o_le (by omega) (by omega)]; omega), o_succ, gb_ck_s (o_in (by omega) (by omega)), gb_ck_s (o_in (by omega) (by omega)), gb_let_s, gb_ck_s (o_in (by omega) (by omega)), gb_ck_s (o_in (by omega) (by omega)), gb_let_s, o_cl (by omega), o_cl (by omega), show Int32.ofNat (p + 1) + (-1) = Int32.ofNat p from by rw [← Int32.sub_eq_add_neg]; exact o_pred]
    rw [h1 (p + 1) (by omega) (by omega)]
    refine ih f _ (by omega) (by omega) ?_ ?_ ?_
    · intro q a b
      rw [pj_n (by omega), pj_n (by omega)]; exact h1 q a (by omega)
    · rw [pj_n (by omega), pj_e, if_neg (by omega)]
    · intro q a b
      by_cases e : q = p + 1 + 1
      · subst e
        rw [pj_e, pj_n (by omega), h3, ms_gs]
        by_cases e1 : p + 1 = 11
        · have e2 : p = 10 := by omega
          subst e2
          rw [if_pos rfl, if_pos rfl]
        · rw [if_neg e1, if_neg (by omega), if_neg (by omega)]; rfl
      · rw [pj_n (by omega), pj_n (by omega)]; exact h2 q (by omega) b
theorem gets_m2 {sh : List gb_Sh} {r : Int32} {c : Nat → Int64} {n : Nat} (hn : n ≤ 60) : ∀ (m k fuel : Nat) (g : gb_G), k + m = n → m < fuel → (∀ q, 1 ≤ q → q ≤ 12 → g.2.1 101 q = ms_gi r c k q) → gb_T (f_X11_gets_80 sh fuel g (Int32.ofNat n) r (Int32.ofNat k)) (fun o => o.2 = ms_gi r c n 12) := by
  intro m
  induction m with
  | zero =>
    intro k fuel g h hf h1
    obtain ⟨f, rfl⟩ : ∃ f, fuel = f + 1 := ⟨fuel - 1, by omega⟩
    have e : k = n := by omega
    subst e
    rw [f_X11_gets_80, if_pos (Int32.le_refl _)]
    exact ⟨_, rfl, h1 12 (by omega) (by omega)⟩
  | succ m ih =>
    intro k fuel g h hf h1
    obtain ⟨f, rfl⟩ : ∃ f, fuel = f + 1 := ⟨fuel - 1, by omega⟩
    rw [f_X11_gets_80, if_neg (by rw [o_le (by omega) (by omega)]; omega)]
    refine gets_m1 (c := ms_gi r c k) ?_ 11 gb_N _ (by omega) (by unfold gb_N; omega) ?_ ?_ ?_
    · intro g' a1
      show gb_T (f_X11_gets_80 sh f g' (Int32.ofNat n) r (Int32.ofNat k + 1)) _
      rw [o_succ]
      exact ih (k + 1) f g' (by omega) (by omega) a1
    · intro q a b
      exact h1 q a (by omega)
    · rw [if_pos rfl]; exact h1 12 (by omega) (by omega)
    · intro q a b
      omega
theorem gets_m3 {sh : List gb_Sh} {i n w : Nat} {r : Int32} (hn : n ≤ 60) (hi : i < 8) (hw : w ≤ 12) : ∀ (m v fuel : Nat) (g : gb_G), v + m = 14 → m < fuel → g.1 79 (8 + i) = Int32.ofNat w → g.1 79 6 = r → (∀ q, q < v → g.2.1 101 q = ms_g0 w q) → gb_T (f_X11_gets_31 sh fuel g (Int32.ofNat i) (Int32.ofNat n) (Int32.ofNat v)) (fun o => o.2 = ms_gi r (ms_g0 w) n 12) := by
  intro m
  induction m with
  | zero =>
    intro v fuel g h hf h1 h2 h3
    obtain ⟨f, rfl⟩ : ∃ f, fuel = f + 1 := ⟨fuel - 1, by omega⟩
    have e : v = 14 := by omega
    subst e
    rw [f_X11_gets_31, if_pos (by decide), h2]
    exact gets_m2 hn n 0 gb_N g (by omega) (by unfold gb_N; omega) fun q _ b => h3 q (by omega)
  | succ m ih =>
    intro v fuel g h hf h1 h2 h3
    obtain ⟨f, rfl⟩ : ∃ f, fuel = f + 1 := ⟨fuel - 1, by omega⟩
    rw [f_X11_gets_31, if_neg (by rw [show (14 : Int32) = Int32.ofNat 14 from rfl, o_le (by omega) (by omega)]; omega), show (8 : Int32) = Int32.ofNat 8 from rfl, o_add, gb_ck_s (o_in (by omega) (by omega)), o_cl (by omega), h1]
    unfold f_X11_gets_62
    rw [gb_ck_s (o_in (by omega) (by omega)), gb_ck_s (o_in (by omega) (by omega)), gb_let_s, gb_let_s, o_cl (by omega), o_succ]
    by_cases e : v = w
    · rw [if_pos (by rw [e])]
      refine ih (v + 1) f _ (by omega) (by omega) h1 h2 ?_
      intro q hq
      by_cases eq : q = v
      · subst eq; rw [pj_e, ms_g0, if_pos e]
      · rw [pj_n (by omega)]; exact h3 q (by omega)
    · rw [if_neg (fun z => e (o_inj (by omega) (by omega) z))]
      refine ih (v + 1) f _ (by omega) (by omega) h1 h2 ?_
      intro q hq
      by_cases eq : q = v
      · subst eq; rw [pj_e, ms_g0, if_neg e]
      · rw [pj_n (by omega)]; exact h3 q (by omega)
theorem p_gets : ps_gets gb_I := by
  intro sh g x1 x2 hI
  obtain ⟨β, ⟨hw, hc, hm⟩, -⟩ := hI.2.2.2.2.2.2.2.2
  have hB : iB sh g β := ⟨hw, hc, hm⟩
  have hn := hw.1
  by_cases h1 : im 0 ((bN β : Int) - 1) x1
  · by_cases h2 : im 0 60 x2
    · obtain ⟨i, hi, rfl⟩ := o_of h1
      obtain ⟨n, hn6, rfl⟩ := o_of (n := 61) h2
      have hT := (hw.2.2.2.2.2.2.1 i hi).2.1
      obtain ⟨w, hw13, ew⟩ := o_of (n := 13) (x := bT β i 1) (im_mo hT (by omega) (by omega))
      refine ro_b (f2 := fun g1 => f_X11_gets sh g1 _ _) (ms_gi (bTe β 1) (ms_g0 w) n 12) hI ?_ (fun o => w_X10_gets) (fun c k q => by unfold scr; omega) ?_ (fun g1 o => w_X11_gets) (fun c k q => by unfold scr; omega)
      · unfold f_X10_gets
        rw [has_t hn hc.1 h1, bt, within_t h2 rfl rfl, bt, rd_t (y := 1) (j := 1) hw hc rfl hi rfl (by omega), gb_bd_s]
        refine gb_T.bd ?_
        unfold f_X6_partsAtTop f_J7_fill_d0a16
        obtain ⟨o, e, a, b⟩ := fill_l (sh := sh) (a1 := 73) (n1 := 13) (y := 0) (by omega) 13 0 gb_N g (by omega) (by unfold gb_N; omega)
        refine gb_T.bs e ?_
        rw [ew, near_t (o_im 13 hw13 (by omega)) rfl rfl, gb_bd_s]
        simp only []
        rw [gb_ck_s (o_in hw13 (by omega)), gb_let_s, o_cl (by omega), show g.1 (1 + 4) 1 = bTe β 1 from hc.2.2.2.2.2.2.1 1 (by omega)]
        refine gb_T.mo (gets_c2 (c := ms_g0 w) (by omega) n 0 gb_N _ (by omega) (by unfold gb_N; omega) ?_ ?_) fun x _ p => gb_T.sm p
        · have : 1 ≤ w := by
            have := hT.1
            rw [ew, o_int (by omega)] at this
            omega
          rw [pj_n (by omega)]; exact a 0 (by omega) (by omega)
        · intro q q1 q2
          show _ = ms_g0 w q
          by_cases e : q = w
          · subst e; rw [pj_e, ms_g0, if_pos rfl]
          · rw [pj_n (by omega), a q (by omega) (by omega), ms_g0, if_neg e]
      · intro g1 F1
        obtain ⟨-, -, hm1⟩ := iB_s hB F1
        show gb_T (f_X11_gets sh g1 _ _) _
        unfold f_X11_gets
        rw [gb_let_s, isGood_t (g := gb_pi g1 77 0 0) (n := bN β) hn hm1.1 h1, bt, in_t h2 rfl rfl, bt]
        exact gets_m3 (g := gb_pi g1 77 0 0) (r := bTe β 1) (w := w) (by omega) (by omega) (by omega) 14 0 gb_N (by omega) (by unfold gb_N; omega) (((hm1.2.1 i hi).2.1).trans ew) (hm1.2.2.2.2.2.2.1 1 (by omega)) (fun q hq => by omega)
    · refine ⟨(g, -1), (gb_pi g 77 0 0, -1), ?_, ?_, rfl, I770 hI⟩
      · unfold f_X10_gets
        rw [has_t hn hc.1 h1, bt, within_f h2 rfl rfl, bf]; rfl
      · show f_X11_gets sh g _ _ = _
        unfold f_X11_gets
        rw [gb_let_s, isGood_t (g := gb_pi g 77 0 0) (n := bN β) hn hm.1 h1, bt, in_f h2 rfl rfl, bf]; rfl
  · refine ⟨(g, -1), (gb_pi g 77 0 0, -1), ?_, ?_, rfl, I770 hI⟩
    · unfold f_X10_gets
      rw [has_f hn hc.1 h1, bf]; rfl
    · show f_X11_gets sh g _ _ = _
      unfold f_X11_gets
      rw [gb_let_s, isGood_f (g := gb_pi g 77 0 0) (n := bN β) hn hm.1 h1, bf]; rfl
