/-! ===== fractions in lowest terms; TREND ===== -/
theorem l_int {i : Nat} (h : i < 9223372036854775808) : (Int64.ofNat i).toInt = i := Int64.toInt_ofNat_of_lt h
theorem l_of {x : Int64} (h : 0 ≤ x.toInt) : x = Int64.ofNat x.toInt.toNat :=
  Int64.toInt_inj.1 (by have := j_int x; rw [l_int (by omega)]; omega)
theorem l_div {X Y : Nat} (hX : X < 9223372036854775808) (hY : Y < 9223372036854775808) : Int64.ofNat X / Int64.ofNat Y = Int64.ofNat (X / Y) := by
  have h : X / Y ≤ X := Nat.div_le_self X Y
  refine Int64.toInt_inj.1 ?_
  rw [Int64.toInt_div, l_int hX, l_int hY, l_int (by omega), ← Int.ofNat_tdiv]
  generalize X / Y = Z at h
  exact Int.bmod_eq_of_le (by omega) (by omega)
theorem l_rem {X Y : Nat} (hX : X < 9223372036854775808) (hY : Y < 9223372036854775808) : gb_reml (Int64.ofNat X) (Int64.ofNat Y) = Int64.ofNat (X % Y) := by
  have h : X / Y * Y ≤ X := Nat.div_mul_le_self X Y
  unfold gb_reml
  rw [l_div hX hY, ← Int64.ofNat_mul, ← Int64.ofNat_sub _ _ h]
  congr 1
  have := Nat.div_add_mod X Y
  rw [Nat.mul_comm] at this
  omega
theorem l_eq0 {Y : Nat} (hY : Y < 9223372036854775808) (h : Int64.ofNat Y = 0) : Y = 0 := by
  have := congrArg Int64.toInt h
  rw [l_int hY, show (0 : Int64).toInt = 0 from rfl] at this
  omega
theorem gcd_st {X Y k : Nat} (hYX : Y ≤ X) (hY : ¬ Y = 0) (hk : X * Y < 2 ^ (k + 1)) : Y * (X % Y) < 2 ^ k := by
  have h1 : X % Y < Y := Nat.mod_lt _ (by omega)
  have h2 : 2 * (X % Y) ≤ X := by
    have h3 := Nat.div_add_mod X Y
    have h4 : 1 ≤ X / Y := (Nat.le_div_iff_mul_le (by omega)).2 (by omega)
    have h5 : Y * 1 ≤ Y * (X / Y) := Nat.mul_le_mul_left Y h4
    omega
  have h6 : Y * (2 * (X % Y)) ≤ Y * X := Nat.mul_le_mul_left Y h2
  rw [Nat.mul_left_comm, Nat.mul_comm Y X] at h6
  rw [Nat.pow_succ] at hk
  omega
theorem gcd_re (X Y : Nat) : Nat.gcd Y (X % Y) = Nat.gcd X Y := by
  rw [Nat.gcd_comm X Y, Nat.gcd_rec Y X, Nat.gcd_comm]
theorem gcd_c {sh : List gb_Sh} {g : gb_G} : ∀ (k X Y t fuel : Nat), Y ≤ X → X < 9223372036854775808 → X * Y < 2 ^ k → t + k < 200 → k < fuel → f_X2_commonDivisor_9 sh fuel g (Int64.ofNat X) (Int64.ofNat Y) (Int32.ofNat t) = some (g, Int64.ofNat (Nat.gcd X Y)) := by
  intro k
  induction k with
  | zero =>
    intro X Y t fuel hYX hX hk ht hf
    obtain ⟨f, rfl⟩ : ∃ f, fuel = f + 1 := ⟨fuel - 1, by omega⟩
    have e : Y = 0 := by
      rcases Nat.eq_zero_or_pos Y with e | e
      · exact e
      · have := Nat.mul_pos (Nat.lt_of_lt_of_le e hYX) e
        omega
    subst e
    rw [f_X2_commonDivisor_9, if_neg (by rw [show (200 : Int32) = Int32.ofNat 200 from rfl, o_le (by omega) (by omega)]; omega), if_pos (show lg_cmp (Int64.ofNat 0) 0 = 0 from (lg_cmp_eq _ _).2 rfl), Nat.gcd_zero_right]
  | succ k ih =>
    intro X Y t fuel hYX hX hk ht hf
    obtain ⟨f, rfl⟩ : ∃ f, fuel = f + 1 := ⟨fuel - 1, by omega⟩
    rw [f_X2_commonDivisor_9, if_neg (by rw [show (200 : Int32) = Int32.ofNat 200 from rfl, o_le (by omega) (by omega)]; omega)]
    by_cases e : Y = 0
    · subst e
      rw [if_pos (show lg_cmp (Int64.ofNat 0) 0 = 0 from (lg_cmp_eq _ _).2 rfl), Nat.gcd_zero_right]
    · have e2 : ¬ Int64.ofNat Y = 0 := fun q => e (l_eq0 (by omega) q)
      rw [if_neg (fun q => e2 ((lg_cmp_eq _ _).1 q)), gb_nzl_s e2, l_rem hX (by omega), o_succ, ih Y (X % Y) (t + 1) f (Nat.le_of_lt (Nat.mod_lt _ (by omega))) (by omega) (gcd_st hYX e hk) (by omega) (by omega), gcd_re]
theorem gcd_m {sh : List gb_Sh} {g : gb_G} : ∀ (k X Y fuel : Nat), Y ≤ X → X < 9223372036854775808 → X * Y < 2 ^ k → k < fuel → f_X11_common_28 sh fuel g (Int64.ofNat X) (Int64.ofNat Y) = some (g, Int64.ofNat (Nat.gcd X Y)) := by
  intro k
  induction k with
  | zero =>
    intro X Y fuel hYX hX hk hf
    obtain ⟨f, rfl⟩ : ∃ f, fuel = f + 1 := ⟨fuel - 1, by omega⟩
    have e : Y = 0 := by
      rcases Nat.eq_zero_or_pos Y with e | e
      · exact e
      · have := Nat.mul_pos (Nat.lt_of_lt_of_le e hYX) e
        omega
    subst e
    rw [f_X11_common_28, if_pos (show lg_cmp (Int64.ofNat 0) 0 = 0 from (lg_cmp_eq _ _).2 rfl), Nat.gcd_zero_right]
  | succ k ih =>
    intro X Y fuel hYX hX hk hf
    obtain ⟨f, rfl⟩ : ∃ f, fuel = f + 1 := ⟨fuel - 1, by omega⟩
    rw [f_X11_common_28]
    by_cases e : Y = 0
    · subst e
      rw [if_pos (show lg_cmp (Int64.ofNat 0) 0 = 0 from (lg_cmp_eq _ _).2 rfl), Nat.gcd_zero_right]
    · have e2 : ¬ Int64.ofNat Y = 0 := fun q => e (l_eq0 (by omega) q)
      rw [if_neg (fun q => e2 ((lg_cmp_eq _ _).1 q)), gb_nzl_s e2, l_rem hX (by omega), ih Y (X % Y) f (Nat.le_of_lt (Nat.mod_lt _ (by omega))) (by omega) (gcd_st hYX e hk) (by omega), gcd_re]
theorem mul_63 {X Y : Nat} (hX : X < 9223372036854775808) (hY : Y < 9223372036854775808) : X * Y < 2 ^ 126 := by
  have h := Nat.mul_le_mul (by omega : X ≤ 9223372036854775808) (by omega : Y ≤ 9223372036854775807)
  have : (9223372036854775808 * 9223372036854775807 : Nat) < 2 ^ 126 := by decide
  omega
theorem gcd_C {sh : List gb_Sh} {g : gb_G} {X Y : Nat} (hX : X < 9223372036854775808) (hY : Y < 9223372036854775808) : f_X2_commonDivisor sh g (Int64.ofNat X) (Int64.ofNat Y) = some (g, Int64.ofNat (Nat.gcd X Y)) := by
  unfold f_X2_commonDivisor
  by_cases h : Y ≤ X
  · exact gcd_c 126 X Y 0 gb_N h hX (mul_63 hX hY) (by omega) (by unfold gb_N; omega)
  · have e2 : ¬ Int64.ofNat Y = 0 := fun q => by have := l_eq0 (by omega) q; omega
    rw [show gb_N = 999999 + 1 from rfl, f_X2_commonDivisor_9, if_neg (by decide), if_neg (fun q => e2 ((lg_cmp_eq _ _).1 q)), gb_nzl_s e2, l_rem hX hY, Nat.mod_eq_of_lt (by omega), show (0 + 1 : Int32) = Int32.ofNat 1 from rfl, gcd_c 126 Y X 1 999999 (by omega) hY (mul_63 hY hX) (by omega) (by omega), Nat.gcd_comm]
theorem gcd_M {sh : List gb_Sh} {g : gb_G} {X Y : Nat} (hX : X < 9223372036854775808) (hY : Y < 9223372036854775808) : f_X11_common_28 sh gb_N g (Int64.ofNat X) (Int64.ofNat Y) = some (g, Int64.ofNat (Nat.gcd X Y)) := by
  by_cases h : Y ≤ X
  · exact gcd_m 126 X Y gb_N h hX (mul_63 hX hY) (by unfold gb_N; omega)
  · have e2 : ¬ Int64.ofNat Y = 0 := fun q => by have := l_eq0 (by omega) q; omega
    rw [show gb_N = 999999 + 1 from rfl, f_X11_common_28, if_neg (fun q => e2 ((lg_cmp_eq _ _).1 q)), gb_nzl_s e2, l_rem hX hY, Nat.mod_eq_of_lt (by omega), gcd_m 126 Y X 999999 (by omega) hY (mul_63 hY hX) (by omega), Nat.gcd_comm]
theorem j_neg {x : Int64} (h : -9223372036854775808 < x.toInt) : (-x).toInt = -x.toInt := by
  have := j_int x
  rw [Int64.toInt_neg]
  exact Int.bmod_eq_of_le (by omega) (by omega)
theorem l_abs {x : Int64} (h : -9223372036854775808 < x.toInt) : (if 0 ≤ lg_cmp x 0 then x else -x) = Int64.ofNat x.toInt.natAbs := by
  have := j_int x
  by_cases c : 0 ≤ lg_cmp x 0
  · rw [if_pos c]
    rw [lg_cmp_ge, Int64.le_iff_toInt_le, show (0 : Int64).toInt = 0 from rfl] at c
    refine Int64.toInt_inj.1 ?_
    rw [l_int (by omega)]; omega
  · rw [if_neg c]
    rw [lg_cmp_ge, Int64.le_iff_toInt_le, show (0 : Int64).toInt = 0 from rfl] at c
    refine Int64.toInt_inj.1 ?_
    rw [l_int (by omega), j_neg h]; omega
theorem abs_l {sh : List gb_Sh} {g : gb_G} {x : Int64} (h : -9223372036854775808 < x.toInt) : f_J9_abs_067f4 sh g x = some (g, Int64.ofNat x.toInt.natAbs) := by
  rw [← l_abs h]
  unfold f_J9_abs_067f4
  split <;> rfl
def ms_gd (a b : Int64) : Int64 := Int64.ofNat (Nat.gcd a.toInt.natAbs b.toInt.natAbs)
theorem gd_ne {a b : Int64} (hb : 0 < b.toInt) : ¬ ms_gd a b = 0 := by
  intro q
  have hp : 0 < Nat.gcd a.toInt.natAbs b.toInt.natAbs := Nat.gcd_pos_of_pos_right _ (by omega)
  have hl : Nat.gcd a.toInt.natAbs b.toInt.natAbs ≤ b.toInt.natAbs := Nat.gcd_le_right _ (by omega)
  have := j_int b
  have := l_eq0 (by omega) q
  omega
theorem put_t {sh : List gb_Sh} {g : gb_G} {c : Nat} {a b : Int64} (ha : -9223372036854775808 < a.toInt) (hb : 0 < b.toInt) : f_X2_put sh g c a b = some (gb_pj (gb_pj g c 0 (a / ms_gd a b)) c 1 (b / ms_gd a b)) := by
  have ja := j_int a
  have jb := j_int b
  have hne := gd_ne (a := a) hb
  have b0 : ¬ b = 0 := fun q => by rw [q, show (0 : Int64).toInt = 0 from rfl] at hb; omega
  unfold f_X2_put f_X2_put_50
  rw [abs_l ha, gb_bd_s, abs_l (by omega), gb_bd_s, gcd_C (by omega) (by omega), gb_bd_s]
  simp only []
  rw [show Int64.ofNat (a.toInt.natAbs.gcd b.toInt.natAbs) = ms_gd a b from rfl]
  rw [if_neg (fun q => b0 ((lg_cmp_eq _ _).1 q)), if_neg (fun q => hne ((lg_cmp_eq _ _).1 q)), if_pos ((lg_cmp_ge _ _).2 (by rw [Int64.le_iff_toInt_le, show (0 : Int64).toInt = 0 from rfl]; omega)), gb_nzl_s hne, gb_let_s, gb_nzl_s hne, gb_let_s, Int64.one_mul, Int64.one_mul]
theorem low_t {sh : List gb_Sh} {g : gb_G} {a b : Int64} (ha : -9223372036854775808 < a.toInt) (hb : 0 < b.toInt) : f_X11_lowest sh g a b = some (gb_pj (gb_pj g 77 41 (a / ms_gd a b)) 77 42 (b / ms_gd a b)) := by
  have ja := j_int a
  have jb := j_int b
  have hne := gd_ne (a := a) hb
  have hp : 0 ≤ lg_cmp b 0 := (lg_cmp_ge _ _).2 (by rw [Int64.le_iff_toInt_le, show (0 : Int64).toInt = 0 from rfl]; omega)
  have e : f_X11_common sh g a b = some (g, ms_gd a b) := by
    have e1 : f_X11_common sh g a b = f_X11_common_28 sh gb_N g (if 0 ≤ lg_cmp a 0 then a else -a) (if 0 ≤ lg_cmp b 0 then b else -b) := by
      unfold f_X11_common f_X11_common_12 f_X11_common_26
      by_cases c1 : 0 ≤ lg_cmp a 0
      · rw [if_pos c1, if_pos c1, if_pos hp, if_pos hp]
      · rw [if_neg c1, if_neg c1, if_pos hp, if_pos hp]
    rw [e1, l_abs ha, l_abs (by omega), gcd_M (by omega) (by omega)]; rfl
  unfold f_X11_lowest f_X11_lowest_21
  rw [e, gb_bd_s]
  simp only []
  rw [if_pos hp, gb_nzl_s hne, gb_let_s, gb_nzl_s hne, gb_let_s]
/-! sums over months -/
def ms_pw (x p : Int64) : Nat → Int64
  | 0 => p
  | n + 1 => ms_pw x p n * x
def ms_tm (H : Nat → Int32) (A B n : Nat) : Int64 := ms_pw (H n).toInt64 (ms_pw (Int32.ofNat n).toInt64 1 A) B
def ms_sm (H : Nat → Int32) (A B : Nat) : Nat → Int64
  | 0 => 0
  | n + 1 => ms_sm H A B n + ms_tm H A B n
theorem sm_c1 {sh : List gb_Sh} {g : gb_G} {b1 A B k : Nat} {H : Nat → Int32} {y3 : Int64} {K : gb_G → Int32 → Int32 → Int64 → Int32 → Option (gb_G × Int64)} (hk : k < 12) (hB : B < 1000) (hH : g.1 (b1 + 3) k = H k) {p : Int64} {y1 : Int32} : ∀ m j fuel, j + m = B → m < fuel → f_X6_sumOfMonths_50 sh b1 K fuel g y1 (Int32.ofNat B) y3 (Int32.ofNat k) (ms_pw (H k).toInt64 p j) (Int32.ofNat j) = K g y1 (Int32.ofNat B) (y3 + ms_pw (H k).toInt64 p B) (Int32.ofNat (k + 1)) := by
  intro m
  induction m with
  | zero =>
    intro j fuel h hf
    obtain ⟨f, rfl⟩ : ∃ f, fuel = f + 1 := ⟨fuel - 1, by omega⟩
    have e : j = B := by omega
    subst e
    rw [f_X6_sumOfMonths_50, if_pos (Int32.le_refl _), o_succ]
  | succ m ih =>
    intro j fuel h hf
    obtain ⟨f, rfl⟩ : ∃ f, fuel = f + 1 := ⟨fuel - 1, by omega⟩
    rw [f_X6_sumOfMonths_50, if_neg (by rw [o_le (by omega) (by omega)]; omega), gb_ck_s (o_in (by omega) (by omega)), o_cl (by omega), hH, o_succ]
    exact ih (j + 1) f (by omega) (by omega)
theorem sm_c2 {sh : List gb_Sh} {g : gb_G} {b1 A B k : Nat} {H : Nat → Int32} {y3 : Int64} {K : gb_G → Int32 → Int32 → Int64 → Int32 → Option (gb_G × Int64)} (hk : k < 12) (hA : A < 1000) (hB : B < 1000) (hH : g.1 (b1 + 3) k = H k) : ∀ m j fuel, j + m = A → m < fuel → f_X6_sumOfMonths_27 sh b1 K fuel g (Int32.ofNat A) (Int32.ofNat B) y3 (Int32.ofNat k) (ms_pw (Int32.ofNat k).toInt64 1 j) (Int32.ofNat j) = K g (Int32.ofNat A) (Int32.ofNat B) (y3 + ms_tm H A B k) (Int32.ofNat (k + 1)) := by
  intro m
  induction m with
  | zero =>
    intro j fuel h hf
    obtain ⟨f, rfl⟩ : ∃ f, fuel = f + 1 := ⟨fuel - 1, by omega⟩
    have e : j = A := by omega
    subst e
    rw [f_X6_sumOfMonths_27, if_pos (Int32.le_refl _)]
    exact sm_c1 (A := j) hk hB hH (p := ms_pw (Int32.ofNat k).toInt64 1 j) B 0 gb_N (by omega) (by unfold gb_N; omega)
  | succ m ih =>
    intro j fuel h hf
    obtain ⟨f, rfl⟩ : ∃ f, fuel = f + 1 := ⟨fuel - 1, by omega⟩
    rw [f_X6_sumOfMonths_27, if_neg (by rw [o_le (by omega) (by omega)]; omega), o_succ]
    exact ih (j + 1) f (by omega) (by omega)
theorem sm_c3 {sh : List gb_Sh} {g : gb_G} {b1 A B n : Nat} {H : Nat → Int32} (hn : n ≤ 12) (hA : A < 1000) (hB : B < 1000) (h0 : g.1 b1 4 = Int32.ofNat n) (hH : ∀ k, k < n → g.1 (b1 + 3) k = H k) : ∀ m k fuel, k + m = n → m < fuel → f_X6_sumOfMonths_5 sh b1 fuel g (Int32.ofNat A) (Int32.ofNat B) (ms_sm H A B k) (Int32.ofNat k) = some (g, ms_sm H A B n) := by
  intro m
  induction m with
  | zero =>
    intro k fuel h hf
    obtain ⟨f, rfl⟩ : ∃ f, fuel = f + 1 := ⟨fuel - 1, by omega⟩
    have e : k = n := by omega
    subst e
    rw [f_X6_sumOfMonths_5, if_pos (by rw [h0]; exact Int32.le_refl _)]
  | succ m ih =>
    intro k fuel h hf
    obtain ⟨f, rfl⟩ : ∃ f, fuel = f + 1 := ⟨fuel - 1, by omega⟩
    rw [f_X6_sumOfMonths_5, if_neg (by rw [h0, o_le (by omega) (by omega)]; omega), if_neg (by rw [show (12 : Int32) = Int32.ofNat 12 from rfl, o_le (by omega) (by omega)]; omega)]
    refine Eq.trans (sm_c2 (A := A) (by omega) hA hB (hH k (by omega)) A 0 gb_N (by omega) (by unfold gb_N; omega)) ?_
    exact ih (k + 1) f (by omega) (by omega)
theorem sm_c {sh : List gb_Sh} {g : gb_G} {b1 A B n : Nat} {H : Nat → Int32} (hn : n ≤ 12) (hA : A < 1000) (hB : B < 1000) (h0 : g.1 b1 4 = Int32.ofNat n) (hH : ∀ k, k < n → g.1 (b1 + 3) k = H k) : f_X6_sumOfMonths sh g b1 (Int32.ofNat A) (Int32.ofNat B) = some (g, ms_sm H A B n) :=
  sm_c3 hn hA hB h0 hH n 0 gb_N (by omega) (by unfold gb_N; omega)
theorem pw_b {x : Int64} {A : Nat} (hA : A ≤ 2) (h0 : 0 ≤ x.toInt) (h1 : x.toInt ≤ 11) : 0 ≤ (ms_pw x 1 A).toInt ∧ (ms_pw x 1 A).toInt ≤ 121 := by
  have hA' : A = 0 ∨ A = 1 ∨ A = 2 := by omega
  rcases hA' with rfl | rfl | rfl
  · show 0 ≤ (1 : Int64).toInt ∧ (1 : Int64).toInt ≤ 121
    decide
  · show 0 ≤ (1 * x).toInt ∧ (1 * x).toInt ≤ 121
    rw [Int64.one_mul]; omega
  · show 0 ≤ (1 * x * x).toInt ∧ (1 * x * x).toInt ≤ 121
    have h2 : 0 ≤ x.toInt * x.toInt := Int.mul_nonneg h0 h0
    have h3 : x.toInt * x.toInt ≤ 11 * 11 := Int.mul_le_mul h1 h1 h0 (by omega)
    rw [Int64.one_mul, j_mul (by omega) (by omega)]; omega
theorem tm_b {H : Nat → Int32} {A B n : Nat} (hA : A ≤ 2) (hB : B ≤ 1) (hn : n < 12) (h : im 0 999 (H n)) : 0 ≤ (ms_tm H A B n).toInt ∧ (ms_tm H A B n).toInt ≤ 120879 := by
  have a := pw_b (x := (Int32.ofNat n).toInt64) hA (by rw [j_of, o_int (by omega)]; omega) (by rw [j_of, o_int (by omega)]; omega)
  have hB' : B = 0 ∨ B = 1 := by omega
  unfold ms_tm
  rcases hB' with rfl | rfl
  · show 0 ≤ (ms_pw (Int32.ofNat n).toInt64 1 A).toInt ∧ (ms_pw (Int32.ofNat n).toInt64 1 A).toInt ≤ 120879
    omega
  · show 0 ≤ (ms_pw (Int32.ofNat n).toInt64 1 A * (H n).toInt64).toInt ∧ (ms_pw (Int32.ofNat n).toInt64 1 A * (H n).toInt64).toInt ≤ 120879
    rw [im] at h
    have e := j_of (H n)
    have h2 : 0 ≤ (ms_pw (Int32.ofNat n).toInt64 1 A).toInt * (H n).toInt64.toInt := Int.mul_nonneg a.1 (by omega)
    have h3 : (ms_pw (Int32.ofNat n).toInt64 1 A).toInt * (H n).toInt64.toInt ≤ 121 * 999 := Int.mul_le_mul a.2 (by omega) (by omega) (by omega)
    rw [j_mul (by omega) (by omega)]; omega
theorem sm_b {H : Nat → Int32} {A B n : Nat} (hA : A ≤ 2) (hB : B ≤ 1) (hn : n ≤ 12) (h : ∀ j, j < n → im 0 999 (H j)) : 0 ≤ (ms_sm H A B n).toInt ∧ (ms_sm H A B n).toInt ≤ n * 120879 := by
  induction n with
  | zero =>
    show 0 ≤ (0 : Int64).toInt ∧ (0 : Int64).toInt ≤ ((0 : Nat) : Int) * 120879
    decide
  | succ n ih =>
    have a := ih (by omega) fun j hj => h j (by omega)
    have b := tm_b hA hB (by omega) (h n (by omega))
    rw [ms_sm, j_add (by omega) (by omega)]
    omega
theorem sm_0 {H : Nat → Int32} {A n : Nat} : ms_sm H A 0 n = ms_sm (fun _ => 0) A 0 n := by
  induction n with
  | zero => rfl
  | succ n ih => rw [ms_sm, ms_sm, ih]; rfl
theorem den_p : ∀ n, n < 13 → 2 ≤ n → 0 < ((Int32.ofNat n).toInt64 * ms_sm (fun _ => 0) 2 0 n - ms_sm (fun _ => 0) 1 0 n * ms_sm (fun _ => 0) 1 0 n).toInt := by decide +kernel
theorem pr_b {x y : Int64} (a : 0 ≤ x.toInt) (b : x.toInt ≤ 1450548) (c : 0 ≤ y.toInt) (d : y.toInt ≤ 1450548) : 0 ≤ (x * y).toInt ∧ (x * y).toInt ≤ 2104089500304 := by
  have h2 : 0 ≤ x.toInt * y.toInt := Int.mul_nonneg a c
  have h3 : x.toInt * y.toInt ≤ 1450548 * 1450548 := Int.mul_le_mul b d c (by omega)
  rw [j_mul (by omega) (by omega)]
  omega
theorem sq_k : ∀ k, k < 12 → (Int32.ofNat k * Int32.ofNat k).toInt64 = (Int32.ofNat k).toInt64 * (Int32.ofNat k).toInt64 := by decide +kernel
def ms_tr (H : Nat → Int32) (n : Nat) (x : Int32) : Int64 := if 2 ≤ x then ms_sm H 0 1 n * ms_sm H 2 0 n - ms_sm H 1 0 n * ms_sm H 1 1 n else (Int32.ofNat n).toInt64 * ms_sm H 1 1 n - ms_sm H 1 0 n * ms_sm H 0 1 n
def ms_td (H : Nat → Int32) (n : Nat) : Int64 := (Int32.ofNat n).toInt64 * ms_sm H 2 0 n - ms_sm H 1 0 n * ms_sm H 1 0 n
def ms_tv (H : Nat → Int32) (n : Nat) (x : Int32) : Int32 := if gb_rem x 2 = 0 then (ms_tr H n x / ms_gd (ms_tr H n x) (ms_td H n)).toInt32 else (ms_td H n / ms_gd (ms_tr H n x) (ms_td H n)).toInt32
theorem tr_b {H : Nat → Int32} {n : Nat} {x : Int32} (hn : n ≤ 12) (h : ∀ j, j < n → im 0 999 (H j)) : -9223372036854775808 < (ms_tr H n x).toInt := by
  have a := sm_b (H := H) (A := 1) (B := 0) (n := n) (by omega) (by omega) hn h
  have b := sm_b (H := H) (A := 0) (B := 1) (n := n) (by omega) (by omega) hn h
  have c := sm_b (H := H) (A := 1) (B := 1) (n := n) (by omega) (by omega) hn h
  have d := sm_b (H := H) (A := 2) (B := 0) (n := n) (by omega) (by omega) hn h
  have e : (Int32.ofNat n).toInt64.toInt = n := by rw [j_of, o_int (by omega)]
  unfold ms_tr
  split
  · have p1 := pr_b (x := ms_sm H 0 1 n) (y := ms_sm H 2 0 n) (by omega) (by omega) (by omega) (by omega)
    have p2 := pr_b (x := ms_sm H 1 0 n) (y := ms_sm H 1 1 n) (by omega) (by omega) (by omega) (by omega)
    rw [j_sub (by omega) (by omega)]; omega
  · have p1 := pr_b (x := (Int32.ofNat n).toInt64) (y := ms_sm H 1 1 n) (by omega) (by omega) (by omega) (by omega)
    have p2 := pr_b (x := ms_sm H 1 0 n) (y := ms_sm H 0 1 n) (by omega) (by omega) (by omega) (by omega)
    rw [j_sub (by omega) (by omega)]; omega
theorem td_p {H : Nat → Int32} {n : Nat} (hn : n ≤ 12) (h2 : 2 ≤ n) : 0 < (ms_td H n).toInt := by
  unfold ms_td
  rw [sm_0, sm_0 (A := 1)]
  exact den_p n (by omega) h2
theorem tr_m {sh : List gb_Sh} {n : Nat} {H : Nat → Int32} {g : gb_G} {x : Int32} (hn : n ≤ 12) (h2 : 2 ≤ n) (hb : ∀ j, j < n → im 0 999 (H j)) (hH : ∀ k, k < n → g.1 79 (104 + k) = H k) : ∀ m k fuel, k + m = n → m < fuel → gb_T (f_X11_trend_46 sh fuel g x (Int32.ofNat n) (ms_sm H 1 0 k) (ms_sm H 0 1 k) (ms_sm H 2 0 k) (ms_sm H 1 1 k) (Int32.ofNat k)) (fun o => o.2 = ms_tv H n x) := by
  intro m
  induction m with
  | zero =>
    intro k fuel h hf
    obtain ⟨f, rfl⟩ : ∃ f, fuel = f + 1 := ⟨fuel - 1, by omega⟩
    have e : k = n := by omega
    subst e
    have d := td_p (H := H) hn h2
    rw [f_X11_trend_46, if_pos (Int32.le_refl _)]
    have hl := low_t (sh := sh) (g := g) (a := ms_tr H k x) (b := ms_td H k) (tr_b hn hb) d
    unfold f_X11_trend_162 f_X11_trend_179
    by_cases c : 2 ≤ x
    · rw [if_pos c]
      have e1 : ms_tr H k x = ms_sm H 0 1 k * ms_sm H 2 0 k - ms_sm H 1 0 k * ms_sm H 1 1 k := if_pos c
      rw [e1] at hl
      refine gb_T.bs hl ?_
      rw [← e1]
      unfold ms_tv
      by_cases c2 : gb_rem x 2 = 0
      · rw [if_pos c2, if_pos c2]
        refine gb_T.sm ?_
        show Int64.toInt32 _ = _
        rw [pj_n (by omega), pj_e]
      · rw [if_neg c2, if_neg c2]
        refine gb_T.sm ?_
        show Int64.toInt32 _ = _
        rw [pj_e]
    · rw [if_neg c]
      have e1 : ms_tr H k x = (Int32.ofNat k).toInt64 * ms_sm H 1 1 k - ms_sm H 1 0 k * ms_sm H 0 1 k := if_neg c
      rw [e1] at hl
      refine gb_T.bs hl ?_
      rw [← e1]
      unfold ms_tv
      by_cases c2 : gb_rem x 2 = 0
      · rw [if_pos c2, if_pos c2]
        refine gb_T.sm ?_
        show Int64.toInt32 _ = _
        rw [pj_n (by omega), pj_e]
      · rw [if_neg c2, if_neg c2]
        refine gb_T.sm ?_
        show Int64.toInt32 _ = _
        rw [pj_e]
  | succ m ih =>
    intro k fuel h hf
    obtain ⟨f, rfl⟩ : ∃ f, fuel = f + 1 := ⟨fuel - 1, by omega⟩
    rw [f_X11_trend_46, if_neg (by rw [o_le (by omega) (by omega)]; omega), show (104 : Int32) = Int32.ofNat 104 from rfl, o_add, gb_ck_s (o_in (by omega) (by omega)), gb_ck_s (o_in (by omega) (by omega)), o_cl (by omega), hH k (by omega), o_succ, sq_k k (by omega)]
    have ih2 := ih (k + 1) f (by omega) (by omega)
    have t1 : ms_tm H 1 0 k = (Int32.ofNat k).toInt64 := Int64.one_mul _
    have t2 : ms_tm H 0 1 k = (H k).toInt64 := Int64.one_mul _
    have t3 : ms_tm H 2 0 k = (Int32.ofNat k).toInt64 * (Int32.ofNat k).toInt64 := by show 1 * _ * _ = _; rw [Int64.one_mul]
    have t4 : ms_tm H 1 1 k = (Int32.ofNat k).toInt64 * (H k).toInt64 := by show 1 * _ * _ = _; rw [Int64.one_mul]
    rw [ms_sm, ms_sm, ms_sm, ms_sm, t1, t2, t3, t4] at ih2
    exact ih2
theorem tr_c {sh : List gb_Sh} {n : Nat} {H : Nat → Int32} {g : gb_G} {x : Int32} (hn : n ≤ 12) (h2 : 2 ≤ n) (hb : ∀ j, j < n → im 0 999 (H j)) (h0 : g.1 1 4 = Int32.ofNat n) (hH : ∀ k, k < n → g.1 (1 + 3) k = H k) : gb_T (if 2 ≤ x then (gb_bd (f_X6_atStart sh g 1) (fun r3 => f_X10_trend_53 sh r3 x)) else (gb_bd (f_X6_rise sh g 1) (fun r7 => f_X10_trend_53 sh r7 x))) (fun o => o.2 = ms_tv H n x) := by
  have d := td_p (H := H) hn h2
  have s1 := sm_c (sh := sh) (b1 := 1) (A := 1) (B := 0) hn (by omega) (by omega) h0 hH
  have s2 := sm_c (sh := sh) (b1 := 1) (A := 0) (B := 1) hn (by omega) (by omega) h0 hH
  have s3 := sm_c (sh := sh) (b1 := 1) (A := 2) (B := 0) hn (by omega) (by omega) h0 hH
  have s4 := sm_c (sh := sh) (b1 := 1) (A := 1) (B := 1) hn (by omega) (by omega) h0 hH
  have hl := put_t (sh := sh) (g := g) (c := 74) (a := ms_tr H n x) (b := ms_td H n) (tr_b hn hb) d
  have fin : gb_T (f_X10_trend_53 sh (gb_pj (gb_pj g 74 0 (ms_tr H n x / ms_gd (ms_tr H n x) (ms_td H n))) 74 1 (ms_td H n / ms_gd (ms_tr H n x) (ms_td H n))) x) (fun o => o.2 = ms_tv H n x) := by
    unfold f_X10_trend_53 f_X2_side ms_tv
    by_cases c2 : gb_rem x 2 = 0
    · rw [if_pos c2, if_pos c2, gb_bd_s]
      refine gb_T.sm ?_
      show Int64.toInt32 _ = _
      rw [pj_n (by omega), pj_e]
    · rw [if_neg c2, if_neg c2, gb_bd_s]
      refine gb_T.sm ?_
      show Int64.toInt32 _ = _
      rw [pj_e]
  by_cases c : 2 ≤ x
  · rw [if_pos c]
    have e1 : ms_tr H n x = ms_sm H 0 1 n * ms_sm H 2 0 n - ms_sm H 1 0 n * ms_sm H 1 1 n := if_pos c
    have e : f_X6_atStart sh g 1 = some (gb_pj (gb_pj g 74 0 (ms_tr H n x / ms_gd (ms_tr H n x) (ms_td H n))) 74 1 (ms_td H n / ms_gd (ms_tr H n x) (ms_td H n))) := by
      unfold f_X6_atStart
      rw [show (1 : Int32) = Int32.ofNat 1 from rfl, show (0 : Int32) = Int32.ofNat 0 from rfl, show (2 : Int32) = Int32.ofNat 2 from rfl, s1, gb_bd_s, s3, gb_bd_s, s2, gb_bd_s, s4, gb_bd_s]
      simp only []
      rw [h0]
      rw [e1, ms_td] at hl ⊢
      rw [hl]; rfl
    rw [e, gb_bd_s]
    exact fin
  · rw [if_neg c]
    have e1 : ms_tr H n x = (Int32.ofNat n).toInt64 * ms_sm H 1 1 n - ms_sm H 1 0 n * ms_sm H 0 1 n := if_neg c
    have e : f_X6_rise sh g 1 = some (gb_pj (gb_pj g 74 0 (ms_tr H n x / ms_gd (ms_tr H n x) (ms_td H n))) 74 1 (ms_td H n / ms_gd (ms_tr H n x) (ms_td H n))) := by
      unfold f_X6_rise
      rw [show (1 : Int32) = Int32.ofNat 1 from rfl, show (0 : Int32) = Int32.ofNat 0 from rfl, show (2 : Int32) = Int32.ofNat 2 from rfl, s1, gb_bd_s, s2, gb_bd_s, s4, gb_bd_s, s3, gb_bd_s]
      simp only []
      rw [h0]
      rw [e1, ms_td] at hl ⊢
      rw [hl]; rfl
    rw [e, gb_bd_s]
    exact fin
theorem p_trend : ps_trend gb_I := by
  intro sh g x1 hI
  obtain ⟨β, ⟨hw, hc, hm⟩, -⟩ := hI.2.2.2.2.2.2.2.2
  have hB : iB sh g β := ⟨hw, hc, hm⟩
  have hn := hw.2.2.1
  have hc4 := hc.2.2.2.2.1
  have hm4 := hm.2.2.2.2.1
  by_cases h1 : 2 ≤ bH β
  · by_cases h2 : im 0 3 x1
    · refine ro_b (f2 := fun g1 => f_X11_trend sh g1 _) (ms_tv (bHe β) (bH β) x1) hI ?_ (fun o => w_X10_trend) (fun c k q => by unfold scr; omega) ?_ (fun g1 o => w_X11_trend) (fun c k q => by unfold scr; omega)
      · unfold f_X10_trend
        rw [if_neg (by rw [hc4, show (2 : Int32) = Int32.ofNat 2 from rfl, o_lt (by omega) (by omega)]; omega), within_t h2 rfl rfl, bt]
        exact tr_c hn h1 hw.2.2.2.2.2.2.2.2.2.1 hc4 hc.2.2.2.2.2.1
      · intro g1 F1
        obtain ⟨-, -, hm1⟩ := iB_s hB F1
        show gb_T (f_X11_trend sh g1 _) _
        unfold f_X11_trend
        rw [gb_let_s, if_neg (by rw [show (gb_pi g1 77 0 0).1 79 2 = g1.1 79 2 from rfl, hm1.2.2.2.2.1, show (2 : Int32) = Int32.ofNat 2 from rfl, o_lt (by omega) (by omega)]; omega), in_t h2 rfl rfl, bt, show (gb_pi g1 77 0 0).1 79 2 = g1.1 79 2 from rfl, hm1.2.2.2.2.1]
        exact tr_m (g := gb_pi g1 77 0 0) (H := bHe β) hn h1 hw.2.2.2.2.2.2.2.2.2.1 hm1.2.2.2.2.2.1 (bH β) 0 gb_N (by omega) (by unfold gb_N; omega)
    · refine ⟨(g, -100000), (gb_pi g 77 0 0, -100000), ?_, ?_, rfl, I770 hI⟩
      · unfold f_X10_trend
        rw [if_neg (by rw [hc4, show (2 : Int32) = Int32.ofNat 2 from rfl, o_lt (by omega) (by omega)]; omega), within_f h2 rfl rfl, bf]; rfl
      · show f_X11_trend sh g _ = _
        unfold f_X11_trend
        rw [gb_let_s, if_neg (by rw [show (gb_pi g 77 0 0).1 79 2 = g.1 79 2 from rfl, hm4, show (2 : Int32) = Int32.ofNat 2 from rfl, o_lt (by omega) (by omega)]; omega), in_f h2 rfl rfl, bf]; rfl
  · refine ⟨(g, -100000), (gb_pi g 77 0 0, -100000), ?_, ?_, rfl, I770 hI⟩
    · unfold f_X10_trend
      rw [if_pos (by rw [hc4, show (2 : Int32) = Int32.ofNat 2 from rfl, o_lt (by omega) (by omega)]; omega)]; rfl
    · show f_X11_trend sh g _ = _
      unfold f_X11_trend
      rw [gb_let_s, if_pos (by rw [show (gb_pi g 77 0 0).1 79 2 = g.1 79 2 from rfl, hm4, show (2 : Int32) = Int32.ofNat 2 from rfl, o_lt (by omega) (by omega)]; omega)]; rfl
