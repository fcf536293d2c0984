/-! ===== figures: numbers ===== -/
def nsum (f : Nat → Nat) : Nat → Nat
  | 0 => 0
  | k + 1 => nsum f k + f k
theorem nsum_b {f : Nat → Nat} {M : Nat} : ∀ n, (∀ i, i < n → f i ≤ M) → nsum f n ≤ n * M := by
  intro n
  induction n with
  | zero => intro _; exact Nat.zero_le _
  | succ n ih =>
    intro h
    have a := ih fun i hi => h i (by omega)
    have b := h n (by omega)
    rw [nsum, Nat.succ_mul]
    omega
theorem nsum_z {f : Nat → Nat} : ∀ n, nsum f n = 0 → ∀ i, i < n → f i = 0 := by
  intro n
  induction n with
  | zero => intro _ i hi; omega
  | succ n ih =>
    intro h i hi
    rw [nsum] at h
    by_cases e : i = n
    · subst e; omega
    · exact ih (by omega) i (by omega)
theorem nsum_y {f : Nat → Nat} : ∀ n, (∀ i, i < n → f i = 0) → nsum f n = 0 := by
  intro n h
  have := nsum_b (f := f) (M := 0) n (fun i hi => by rw [h i hi]; exact Nat.le_refl _)
  omega
theorem nsum_m {f : Nat → Nat} {K : Nat} : ∀ n, nsum (fun i => f i * K) n = nsum f n * K := by
  intro n
  induction n with
  | zero => rw [nsum, nsum, Nat.zero_mul]
  | succ n ih => rw [nsum, nsum, ih, Nat.add_mul]
theorem nsum_c {f h : Nat → Nat} : ∀ n, (∀ i, i < n → f i = h i) → nsum f n = nsum h n := by
  intro n
  induction n with
  | zero => intro _; rfl
  | succ n ih => intro q; rw [nsum, nsum, ih (fun i hi => q i (by omega)), q n (by omega)]
def red (A B : Nat) : Nat × Nat := (A / Nat.gcd A B, B / Nat.gcd A B)
theorem red_eq {A B A' B' : Nat} (hB : 0 < B) (hB' : 0 < B') (h : A * B' = A' * B) : red A B = red A' B' := by
  have hg : 0 < Nat.gcd A B := Nat.gcd_pos_of_pos_right _ hB
  have hg' : 0 < Nat.gcd A' B' := Nat.gcd_pos_of_pos_right _ hB'
  have c := Nat.coprime_div_gcd_div_gcd hg
  have c' := Nat.coprime_div_gcd_div_gcd hg'
  have a1 := Nat.div_mul_cancel (Nat.gcd_dvd_left A B)
  have b1 := Nat.div_mul_cancel (Nat.gcd_dvd_right A B)
  have a2 := Nat.div_mul_cancel (Nat.gcd_dvd_left A' B')
  have b2 := Nat.div_mul_cancel (Nat.gcd_dvd_right A' B')
  unfold red
  revert hg hg' c c' a1 b1 a2 b2
  generalize A / Nat.gcd A B = a
  generalize B / Nat.gcd A B = b
  generalize A' / Nat.gcd A' B' = a'
  generalize B' / Nat.gcd A' B' = b'
  generalize Nat.gcd A B = G
  generalize Nat.gcd A' B' = G'
  intro hg hg' c c' a1 b1 a2 b2
  have e : a * b' = a' * b := by
    have z : (a * b') * (G * G') = (a' * b) * (G * G') := by
      have e1 : (a * b') * (G * G') = (a * G) * (b' * G') := by ac_rfl
      have e2 : (a' * b) * (G * G') = (a' * G') * (b * G) := by ac_rfl
      rw [e1, e2, a1, b2, a2, b1, h]
    exact Nat.eq_of_mul_eq_mul_right (Nat.mul_pos hg hg') z
  have d1 : b ∣ b' := Nat.Coprime.dvd_of_dvd_mul_left c.symm ⟨a', by rw [e, Nat.mul_comm]⟩
  have d2 : b' ∣ b := Nat.Coprime.dvd_of_dvd_mul_left c'.symm ⟨a, by rw [← e, Nat.mul_comm]⟩
  have eb : b = b' := Nat.dvd_antisymm d1 d2
  subst eb
  have hb : 0 < b := by
    rcases Nat.eq_zero_or_pos b with z | z
    · rw [z, Nat.zero_mul] at b1; omega
    · exact z
  rw [Nat.eq_of_mul_eq_mul_right hb e]
theorem red_1 {A B : Nat} : (red A B).1 ≤ A := Nat.div_le_self _ _
theorem red_2 {A B : Nat} : (red A B).2 ≤ B := Nat.div_le_self _ _
theorem red_p {A B : Nat} (hB : 0 < B) : 0 < (red A B).2 := by
  have hg : 0 < Nat.gcd A B := Nat.gcd_pos_of_pos_right _ hB
  exact Nat.div_pos (Nat.gcd_le_right _ hB) hg
theorem red_x {A B : Nat} : (red A B).1 * B = A * (red A B).2 := by
  have a1 := Nat.div_mul_cancel (Nat.gcd_dvd_left A B)
  have b1 := Nat.div_mul_cancel (Nat.gcd_dvd_right A B)
  show A / Nat.gcd A B * B = A * (B / Nat.gcd A B)
  have e : A / Nat.gcd A B * B = A / Nat.gcd A B * (B / Nat.gcd A B * Nat.gcd A B) := by rw [b1]
  have e2 : A * (B / Nat.gcd A B) = A / Nat.gcd A B * Nat.gcd A B * (B / Nat.gcd A B) := by rw [a1]
  rw [e, e2]
  ac_rfl
theorem red_d {A B K : Nat} (hB : 0 < B) : K * (red A B).1 / (red A B).2 = K * A / B := by
  have hg : 0 < Nat.gcd A B := Nat.gcd_pos_of_pos_right _ hB
  have a1 := Nat.div_mul_cancel (Nat.gcd_dvd_left A B)
  have b1 := Nat.div_mul_cancel (Nat.gcd_dvd_right A B)
  show K * (A / Nat.gcd A B) / (B / Nat.gcd A B) = K * A / B
  rw [← Nat.mul_div_mul_right (K * (A / Nat.gcd A B)) (B / Nat.gcd A B) hg, Nat.mul_assoc, a1, b1]
theorem red_0 {B : Nat} (hB : 0 < B) : red 0 B = (0, 1) := by
  unfold red
  rw [Nat.gcd_zero_left, Nat.zero_div, Nat.div_self hB]
theorem ngd {A B : Nat} (hA : A < 9223372036854775808) (hB : B < 9223372036854775808) : ms_gd (Int64.ofNat A) (Int64.ofNat B) = Int64.ofNat (Nat.gcd A B) := by
  unfold ms_gd
  rw [l_int hA, l_int hB]
  rfl
theorem put_N {sh : List gb_Sh} {g : gb_G} {c A B : Nat} (hA : A < 9223372036854775808) (hB : 0 < B) (hB2 : B < 9223372036854775808) : f_X2_put sh g c (Int64.ofNat A) (Int64.ofNat B) = some (gb_pj (gb_pj g c 0 (Int64.ofNat (red A B).1)) c 1 (Int64.ofNat (red A B).2)) := by
  have hg : Nat.gcd A B ≤ B := Nat.gcd_le_right _ hB
  rw [put_t (by rw [l_int hA]; omega) (by rw [l_int hB2]; omega), ngd hA hB2, l_div hA (by omega), l_div hB2 (by omega)]
  rfl
theorem low_N {sh : List gb_Sh} {g : gb_G} {A B : Nat} (hA : A < 9223372036854775808) (hB : 0 < B) (hB2 : B < 9223372036854775808) : f_X11_lowest sh g (Int64.ofNat A) (Int64.ofNat B) = some (gb_pj (gb_pj g 77 41 (Int64.ofNat (red A B).1)) 77 42 (Int64.ofNat (red A B).2)) := by
  have hg : Nat.gcd A B ≤ B := Nat.gcd_le_right _ hB
  rw [low_t (by rw [l_int hA]; omega) (by rw [l_int hB2]; omega), ngd hA hB2, l_div hA (by omega), l_div hB2 (by omega)]
  rfl
theorem n64 {n : Nat} (h : n < 2147483648) : (Int32.ofNat n).toInt64 = Int64.ofNat n := nI_l h
theorem m64 (a b : Nat) : Int64.ofNat a * Int64.ofNat b = Int64.ofNat (a * b) := (Int64.ofNat_mul a b).symm
theorem a64 (a b : Nat) : Int64.ofNat a + Int64.ofNat b = Int64.ofNat (a + b) := (Int64.ofNat_add a b).symm
theorem i32 (n : Nat) : (Int64.ofNat n).toInt32 = Int32.ofNat n := lN_i n
theorem z64 {n : Nat} (h : n < 9223372036854775808) : lg_cmp (Int64.ofNat n) 0 = 0 ↔ n = 0 := by
  rw [lg_cmp_eq]
  exact ⟨fun q => l_eq0 h q, fun q => by rw [q]; rfl⟩
theorem p64 {n : Nat} (h : n < 9223372036854775808) : lg_cmp (Int64.ofNat n) 0 ≤ 0 ↔ n = 0 := by
  rw [lg_cmp_le, Int64.le_iff_toInt_le, l_int h, show (0 : Int64).toInt = 0 from rfl]
  omega
/-! what a figure is made of: how many GOODS, what COUNTS, BASE and NOW of each -/
def wfF (n : Nat) (c b p : Nat → Nat) : Prop := n ≤ 8 ∧ ∀ i, i < n → c i ≤ 99 ∧ 1 ≤ b i ∧ b i ≤ 12 ∧ 1 ≤ p i ∧ p i ≤ 12
def cvF (g : gb_G) (n : Nat) (c b p : Nat → Nat) : Prop := g.1 57 1 = Int32.ofNat n ∧ ∀ i, i < n → g.1 60 i = Int32.ofNat (c i) ∧ (0 < c i → g.1 58 i = Int32.ofNat (b i) ∧ g.1 59 i = Int32.ofNat (p i))
theorem cvF_fr {g g' : gb_G} {n : Nat} {c b p : Nat → Nat} (h : cvF g n c b p) (e : ∀ a k, 57 ≤ a ∧ a ≤ 60 → g'.1 a k = g.1 a k) : cvF g' n c b p := by
  refine ⟨(e 57 1 (by omega)).trans h.1, fun i hi => ?_⟩
  rw [e 60 i (by omega), e 58 i (by omega), e 59 i (by omega)]
  exact h.2 i hi
theorem cnt_a {sh : List gb_Sh} {g : gb_G} {n : Nat} {c b p : Nat → Nat} (hw : wfF n c b p) (hf : cvF g n c b p) : f_X1_countOfAll sh g = some (g, Int32.ofNat (nsum c n)) := by
  have hn := hw.1
  have K : ∀ (m i fuel : Nat), i + m = n → m < fuel → f_X1_countOfAll_4 sh fuel g (Int32.ofNat (nsum c i)) (Int32.ofNat i) = some (g, Int32.ofNat (nsum c n)) := by
    intro m
    induction m with
    | zero =>
      intro i fuel h hf'
      obtain ⟨f, rfl⟩ : ∃ f, fuel = f + 1 := ⟨fuel - 1, by omega⟩
      have e : i = n := by omega
      subst e
      rw [f_X1_countOfAll_4, hf.1, if_pos (Int32.le_refl _)]
    | succ m ih =>
      intro i fuel h hf'
      obtain ⟨f, rfl⟩ : ∃ f, fuel = f + 1 := ⟨fuel - 1, by omega⟩
      rw [f_X1_countOfAll_4, hf.1, if_neg (by rw [o_le (by omega) (by omega)]; omega), gb_ck_s (o_in (by omega) (by omega)), o_cl (by omega), (hf.2 i (by omega)).1, o_add, o_succ]
      exact ih (i + 1) f (by omega) (by omega)
  exact K n 0 gb_N (by omega) (by unfold gb_N; omega)
theorem wei_a {sh : List gb_Sh} {g : gb_G} {n a1 : Nat} {c b p u : Nat → Nat} (hw : wfF n c b p) (hf : cvF g n c b p) (hu : ∀ i, i < n → 0 < c i → g.1 a1 i = Int32.ofNat (u i)) (hu2 : ∀ i, i < n → u i ≤ 12) : f_X1_weighed sh g a1 = some (g, Int64.ofNat (nsum (fun i => c i * u i) n)) := by
  have hn := hw.1
  have K : ∀ (m i fuel : Nat), i + m = n → m < fuel → f_X1_weighed_5 sh a1 fuel g (Int64.ofNat (nsum (fun i => c i * u i) i)) (Int32.ofNat i) = some (g, Int64.ofNat (nsum (fun i => c i * u i) n)) := by
    intro m
    induction m with
    | zero =>
      intro i fuel h hf'
      obtain ⟨f, rfl⟩ : ∃ f, fuel = f + 1 := ⟨fuel - 1, by omega⟩
      have e : i = n := by omega
      subst e
      rw [f_X1_weighed_5, hf.1, if_pos (Int32.le_refl _)]
    | succ m ih =>
      intro i fuel h hf'
      obtain ⟨f, rfl⟩ : ∃ f, fuel = f + 1 := ⟨fuel - 1, by omega⟩
      have hci := (hw.2 i (by omega)).1
      have hui := hu2 i (by omega)
      rw [f_X1_weighed_5, hf.1, if_neg (by rw [o_le (by omega) (by omega)]; omega), gb_ck_s (o_in (by omega) (by omega)), gb_ck_s (o_in (by omega) (by omega)), o_cl (by omega), (hf.2 i (by omega)).1, o_succ]
      have ih2 := ih (i + 1) f (by omega) (by omega)
      rw [nsum] at ih2
      by_cases e : c i = 0
      · rw [e, show (Int32.ofNat 0).toInt64 = 0 from rfl, Int64.mul_zero, Int64.add_zero]
        rw [e, Nat.zero_mul, Nat.add_zero] at ih2
        exact ih2
      · rw [hu i (by omega) (by omega), n64 (by omega), n64 (by omega), m64, a64, Nat.mul_comm (u i)]
        exact ih2
  exact K n 0 gb_N (by omega) (by unfold gb_N; omega)
/-- a figure by a rule, ahead of its lowest terms -/
def fs (r : Nat) (c u d : Nat → Nat) : Nat → Nat × Nat
  | 0 => (0, 0)
  | k + 1 => if r = 0 then ((fs r c u d k).1 + c k * u k, (fs r c u d k).2 + c k * d k) else if r = 1 then ((fs r c u d k).1 + c k * u k * (27720 / d k), (fs r c u d k).2 + c k * 27720) else if 0 < c k ∧ ((fs r c u d k).2 = 0 ∨ (r = 2 ∧ (fs r c u d k).1 * d k < u k * (fs r c u d k).2) ∨ (¬ r = 2 ∧ u k * (fs r c u d k).2 < (fs r c u d k).1 * d k)) then (u k, d k) else fs r c u d k
def FG (r n : Nat) (c u d : Nat → Nat) : Nat × Nat := if (fs r c u d n).2 = 0 then (0, 1) else red (fs r c u d n).1 (fs r c u d n).2
theorem fs_0 {c u d : Nat → Nat} : ∀ n, fs 0 c u d n = (nsum (fun i => c i * u i) n, nsum (fun i => c i * d i) n) := by
  intro n
  induction n with
  | zero => rfl
  | succ n ih => rw [fs, if_pos rfl, ih]; rfl
theorem fs_1 {c u d : Nat → Nat} : ∀ n, fs 1 c u d n = (nsum (fun i => c i * u i * (27720 / d i)) n, nsum (fun i => c i * 27720) n) := by
  intro n
  induction n with
  | zero => rfl
  | succ n ih => rw [fs, if_neg (by omega), if_pos rfl, ih]; rfl
theorem fs_b {r : Nat} {c u d : Nat → Nat} : ∀ n, n ≤ 8 → (∀ i, i < n → c i ≤ 99 ∧ 1 ≤ u i ∧ u i ≤ 12 ∧ 1 ≤ d i ∧ d i ≤ 12) → (fs r c u d n).1 ≤ n * 32931360 ∧ (fs r c u d n).2 ≤ n * 2744280 := by
  intro n
  induction n with
  | zero => intro _ _; exact ⟨Nat.zero_le _, Nat.zero_le _⟩
  | succ n ih =>
    intro hn h
    obtain ⟨a, b⟩ := ih (by omega) fun i hi => h i (by omega)
    obtain ⟨h1, h2, h3, h4, h5⟩ := h n (by omega)
    have p1 : c n * u n ≤ 99 * 12 := Nat.mul_le_mul h1 h3
    have p2 : c n * d n ≤ 99 * 12 := Nat.mul_le_mul h1 h5
    have p3 : 27720 / d n ≤ 27720 := Nat.div_le_self _ _
    have p4 : c n * u n * (27720 / d n) ≤ 99 * 12 * 27720 := Nat.mul_le_mul p1 p3
    rw [fs]
    split
    · exact ⟨by show (fs r c u d n).1 + c n * u n ≤ _; omega, by show (fs r c u d n).2 + c n * d n ≤ _; omega⟩
    · split
      · exact ⟨by show (fs r c u d n).1 + c n * u n * (27720 / d n) ≤ _; omega, by show (fs r c u d n).2 + c n * 27720 ≤ _; omega⟩
      · split
        · exact ⟨by show u n ≤ _; omega, by show d n ≤ _; omega⟩
        · exact ⟨Nat.le_trans a (by rw [Nat.succ_mul]; exact Nat.le_add_right _ _), Nat.le_trans b (by rw [Nat.succ_mul]; exact Nat.le_add_right _ _)⟩
theorem fs_z {r : Nat} {c u d : Nat → Nat} : ∀ n, (∀ i, i < n → 1 ≤ d i) → ((fs r c u d n).2 = 0 ↔ nsum c n = 0) := by
  intro n
  induction n with
  | zero => intro _; exact ⟨fun _ => rfl, fun _ => rfl⟩
  | succ n ih =>
    intro h
    have ih2 := ih fun i hi => h i (by omega)
    have hd := h n (by omega)
    rw [nsum, fs]
    have hp : 0 < c n → 0 < c n * d n := fun q => Nat.mul_pos q hd
    have hz : c n = 0 → c n * d n = 0 := fun q => by rw [q, Nat.zero_mul]
    split
    · show (fs r c u d n).2 + c n * d n = 0 ↔ _
      rcases Nat.eq_zero_or_pos (c n) with q | q
      · have := hz q; omega
      · have := hp q; omega
    · split
      · show (fs r c u d n).2 + c n * 27720 = 0 ↔ _
        omega
      · split
        · rename_i q
          show d n = 0 ↔ _
          omega
        · rename_i q
          rw [ih2]
          rcases Nat.eq_zero_or_pos (c n) with z | z
          · omega
          · constructor
            · intro y; exact absurd ⟨z, Or.inl (ih2.2 y)⟩ q
            · intro y; omega
theorem FG_b {r n : Nat} {c u d : Nat → Nat} (hn : n ≤ 8) (h : ∀ i, i < n → c i ≤ 99 ∧ 1 ≤ u i ∧ u i ≤ 12 ∧ 1 ≤ d i ∧ d i ≤ 12) : (FG r n c u d).1 ≤ 263450880 ∧ (FG r n c u d).2 ≤ 21954240 ∧ 0 < (FG r n c u d).2 := by
  have hb := fs_b (r := r) n hn h
  unfold FG
  by_cases q : (fs r c u d n).2 = 0
  · rw [if_pos q]; exact ⟨by omega, by omega, by omega⟩
  · rw [if_neg q]
    have e1 := red_1 (A := (fs r c u d n).1) (B := (fs r c u d n).2)
    have e2 := red_2 (A := (fs r c u d n).1) (B := (fs r c u d n).2)
    exact ⟨by omega, by omega, red_p (by omega)⟩
/-! the class reckons -/
theorem rk_65 {sh : List gb_Sh} {n a2 a3 b4 : Nat} {c b p u d : Nat → Nat} (hb4 : 61 ≤ b4) (hw : wfF n c b p) (hw2 : ∀ i, i < n → c i ≤ 99 ∧ 1 ≤ u i ∧ u i ≤ 12 ∧ 1 ≤ d i ∧ d i ≤ 12) (hz : ¬ nsum c n = 0) : ∀ (m k fuel : Nat) (g : gb_G), k + m = n → m < fuel → cvF g n c b p → (∀ i, i < n → 0 < c i → g.1 a2 i = Int32.ofNat (u i) ∧ g.1 a3 i = Int32.ofNat (d i)) → g.2.1 b4 0 = Int64.ofNat (red (nsum (fun i => c i * u i * (27720 / d i)) k) 27720).1 → g.2.1 b4 1 = Int64.ofNat (red (nsum (fun i => c i * u i * (27720 / d i)) k) 27720).2 → gb_T (f_X1_reckon_65 sh a2 a3 b4 fuel g (Int32.ofNat k)) (fun o => o.2.1 b4 0 = Int64.ofNat (FG 1 n c u d).1 ∧ o.2.1 b4 1 = Int64.ofNat (FG 1 n c u d).2 ∧ o.1 = g.1) := by
  have hn := hw.1
  have hS : ∀ k, k ≤ n → nsum (fun i => c i * u i * (27720 / d i)) k ≤ k * 32931360 := fun k hk => nsum_b k fun i hi => by
    obtain ⟨h1, h2, h3, h4, h5⟩ := hw2 i (by omega)
    exact Nat.mul_le_mul (Nat.mul_le_mul h1 h3 : c i * u i ≤ 99 * 12) (Nat.div_le_self 27720 (d i))
  intro m
  induction m with
  | zero =>
    intro k fuel g h hf hF hu h0 h1
    obtain ⟨f, rfl⟩ : ∃ f, fuel = f + 1 := ⟨fuel - 1, by omega⟩
    have e : k = n := by omega
    subst e
    have hC : nsum c k ≤ k * 99 := nsum_b k fun i hi => (hw2 i hi).1
    have hSk := hS k (Nat.le_refl _)
    have r1 := red_1 (A := nsum (fun i => c i * u i * (27720 / d i)) k) (B := 27720)
    have r2 := red_2 (A := nsum (fun i => c i * u i * (27720 / d i)) k) (B := 27720)
    have r3 := red_p (A := nsum (fun i => c i * u i * (27720 / d i)) k) (B := 27720) (by omega)
    have r4 : (red (nsum (fun i => c i * u i * (27720 / d i)) k) 27720).2 * nsum c k ≤ 27720 * (k * 99) := Nat.mul_le_mul r2 hC
    have r5 := Nat.mul_pos r3 (show 0 < nsum c k by omega)
    rw [f_X1_reckon_65, if_pos (by rw [hF.1]; exact Int32.le_refl _), cnt_a hw hF, gb_bd_s]
    unfold f_X2_divide
    simp only []
    rw [h0, h1, n64 (by omega), m64, put_N (by omega) r5 (by omega), gb_bd_s, gb_bd_s]
    have e : red (red (nsum (fun i => c i * u i * (27720 / d i)) k) 27720).1 ((red (nsum (fun i => c i * u i * (27720 / d i)) k) 27720).2 * nsum c k) = FG 1 k c u d := by
      unfold FG
      rw [fs_1, if_neg (by rw [nsum_m]; show ¬ nsum c k * 27720 = 0; omega)]
      show _ = red (nsum (fun i => c i * u i * (27720 / d i)) k) (nsum (fun i => c i * 27720) k)
      rw [nsum_m]
      refine red_eq r5 (by omega) ?_
      have x := red_x (A := nsum (fun i => c i * u i * (27720 / d i)) k) (B := 27720)
      have e1 : (red (nsum (fun i => c i * u i * (27720 / d i)) k) 27720).1 * (nsum c k * 27720) = (red (nsum (fun i => c i * u i * (27720 / d i)) k) 27720).1 * 27720 * nsum c k := by ac_rfl
      rw [e1, x]
      ac_rfl
    rw [e]
    exact ⟨_, rfl, by rw [pj_n (by omega), pj_e], pj_e, rfl⟩
  | succ m ih =>
    intro k fuel g h hf hF hu h0 h1
    obtain ⟨f, rfl⟩ : ∃ f, fuel = f + 1 := ⟨fuel - 1, by omega⟩
    obtain ⟨q1, q2, q3, q4, q5⟩ := hw2 k (by omega)
    rw [f_X1_reckon_65, if_neg (by rw [hF.1, o_le (by omega) (by omega)]; omega), gb_ck_s (o_in (by omega) (by omega)), o_cl (by omega), (hF.2 k (by omega)).1]
    unfold f_X1_reckon_108
    by_cases e : c k = 0
    · rw [if_pos (by rw [e]; decide), o_succ]
      refine ih (k + 1) f g (by omega) (by omega) hF hu ?_ ?_
      · rw [nsum, e, Nat.zero_mul, Nat.zero_mul, Nat.add_zero]; exact h0
      · rw [nsum, e, Nat.zero_mul, Nat.zero_mul, Nat.add_zero]; exact h1
    · rw [if_neg (by rw [show (0 : Int32) = Int32.ofNat 0 from rfl, o_le (by omega) (by omega)]; omega), gb_ck_s (o_in (by omega) (by omega)), gb_ck_s (o_in (by omega) (by omega)), gb_ck_s (o_in (by omega) (by omega)), (hu k (by omega) (by omega)).1, (hu k (by omega) (by omega)).2]
      have hSk := hS k (by omega)
      have r1 := red_1 (A := nsum (fun i => c i * u i * (27720 / d i)) k) (B := 27720)
      have r2 := red_2 (A := nsum (fun i => c i * u i * (27720 / d i)) k) (B := 27720)
      have r3 := red_p (A := nsum (fun i => c i * u i * (27720 / d i)) k) (B := 27720) (by omega)
      have r4 : (red (nsum (fun i => c i * u i * (27720 / d i)) k) 27720).1 * d k ≤ (k * 32931360) * 12 := Nat.mul_le_mul (by omega) q5
      have r5 : u k * c k * (red (nsum (fun i => c i * u i * (27720 / d i)) k) 27720).2 ≤ 12 * 99 * 27720 := Nat.mul_le_mul (Nat.mul_le_mul q3 q1) r2
      have r6 : (red (nsum (fun i => c i * u i * (27720 / d i)) k) 27720).2 * d k ≤ 27720 * 12 := Nat.mul_le_mul r2 q5
      have r7 := Nat.mul_pos r3 (show 0 < d k by omega)
      unfold f_X2_add
      rw [h0, h1, n64 (by omega), n64 (by omega), n64 (by omega), m64, m64, m64, a64, m64, put_N (by omega) r7 (by omega), gb_bd_s, gb_bd_s, o_succ]
      have e2 : red ((red (nsum (fun i => c i * u i * (27720 / d i)) k) 27720).1 * d k + u k * c k * (red (nsum (fun i => c i * u i * (27720 / d i)) k) 27720).2) ((red (nsum (fun i => c i * u i * (27720 / d i)) k) 27720).2 * d k) = red (nsum (fun i => c i * u i * (27720 / d i)) (k + 1)) 27720 := by
        refine red_eq r7 (by omega) ?_
        rw [nsum]
        have x := red_x (A := nsum (fun i => c i * u i * (27720 / d i)) k) (B := 27720)
        have y : 27720 / d k * d k = 27720 := by
          have : d k = 1 ∨ d k = 2 ∨ d k = 3 ∨ d k = 4 ∨ d k = 5 ∨ d k = 6 ∨ d k = 7 ∨ d k = 8 ∨ d k = 9 ∨ d k = 10 ∨ d k = 11 ∨ d k = 12 := by omega
          rcases this with z | z | z | z | z | z | z | z | z | z | z | z <;> rw [z]
        generalize (red (nsum (fun i => c i * u i * (27720 / d i)) k) 27720).1 = A at *
        generalize (red (nsum (fun i => c i * u i * (27720 / d i)) k) 27720).2 = B at *
        generalize nsum (fun i => c i * u i * (27720 / d i)) k = S at *
        generalize 27720 / d k = D at *
        rw [Nat.add_mul, Nat.add_mul]
        have e1 : A * d k * 27720 = S * (B * d k) := by
          rw [Nat.mul_right_comm, x]; ac_rfl
        have e2 : u k * c k * B * 27720 = c k * u k * D * (B * d k) := by
          have : c k * u k * D * (B * d k) = u k * c k * B * (D * d k) := by ac_rfl
          rw [this, y]
        rw [e1, e2]
      rw [e2]
      obtain ⟨o, eo, o1, o2, o3⟩ := ih (k + 1) f (gb_pj (gb_pj g b4 0 (Int64.ofNat (red (nsum (fun i => c i * u i * (27720 / d i)) (k + 1)) 27720).1)) b4 1 (Int64.ofNat (red (nsum (fun i => c i * u i * (27720 / d i)) (k + 1)) 27720).2)) (by omega) (by omega) (cvF_fr hF fun _ _ _ => rfl) hu (by rw [pj_n (by omega), pj_e]) pj_e
      exact ⟨o, eo, o1, o2, o3⟩
theorem om_6 {sh : List gb_Sh} {g : gb_G} {n a1 a2 r : Nat} {c b p u d : Nat → Nat} {sg : Int32} (hw : wfF n c b p) (hw2 : ∀ i, i < n → c i ≤ 99 ∧ 1 ≤ u i ∧ u i ≤ 12 ∧ 1 ≤ d i ∧ d i ≤ 12) (hF : cvF g n c b p) (hu : ∀ i, i < n → 0 < c i → g.1 a1 i = Int32.ofNat (u i) ∧ g.1 a2 i = Int32.ofNat (d i)) (hr : (r = 2 ∧ sg = 1) ∨ (r = 3 ∧ sg = -1)) : ∀ (m k fuel : Nat) (y : Int32), k + m = n → m < fuel → ((y = -1 ∧ fs r c u d k = (0, 0)) ∨ ∃ j, j < k ∧ y = Int32.ofNat j ∧ 0 < c j ∧ fs r c u d k = (u j, d j)) → gb_T (f_X1_outermost_6 sh a1 a2 fuel g sg y (Int32.ofNat k)) (fun o => o.1 = g ∧ ((o.2 = -1 ∧ fs r c u d n = (0, 0)) ∨ ∃ j, j < n ∧ o.2 = Int32.ofNat j ∧ 0 < c j ∧ fs r c u d n = (u j, d j))) := by
  have hn := hw.1
  intro m
  induction m with
  | zero =>
    intro k fuel y h hf hy
    obtain ⟨f, rfl⟩ : ∃ f, fuel = f + 1 := ⟨fuel - 1, by omega⟩
    have e : k = n := by omega
    subst e
    rw [f_X1_outermost_6, if_pos (by rw [hF.1]; exact Int32.le_refl _)]
    exact ⟨_, rfl, rfl, hy⟩
  | succ m ih =>
    intro k fuel y h hf hy
    obtain ⟨f, rfl⟩ : ∃ f, fuel = f + 1 := ⟨fuel - 1, by omega⟩
    obtain ⟨q1, q2, q3, q4, q5⟩ := hw2 k (by omega)
    have r0 : ¬ r = 0 := by omega
    have r1 : ¬ r = 1 := by omega
    rw [f_X1_outermost_6, if_neg (by rw [hF.1, o_le (by omega) (by omega)]; omega), gb_ck_s (o_in (by omega) (by omega)), o_cl (by omega), (hF.2 k (by omega)).1]
    unfold f_X1_outermost_55 f_X1_outermost_59
    simp only []
    rw [o_succ]
    by_cases e : c k = 0
    · rw [if_pos (by rw [e]; decide)]
      have ef : fs r c u d (k + 1) = fs r c u d k := by rw [fs, if_neg r0, if_neg r1, if_neg (by omega)]
      refine ih (k + 1) f y (by omega) (by omega) ?_
      rw [ef]
      rcases hy with hy | ⟨j, j1, j2⟩
      · exact Or.inl hy
      · exact Or.inr ⟨j, by omega, j2⟩
    · rw [if_neg (by rw [show (0 : Int32) = Int32.ofNat 0 from rfl, o_le (by omega) (by omega)]; omega)]
      rcases hy with ⟨y1, y2⟩ | ⟨j, j1, j2, j3, j4⟩
      · rw [if_pos y1]
        refine ih (k + 1) f _ (by omega) (by omega) (Or.inr ⟨k, by omega, rfl, by omega, ?_⟩)
        rw [fs, if_neg r0, if_neg r1, if_pos ⟨by omega, Or.inl (by rw [y2])⟩]
      · subst j2
        obtain ⟨w1, w2, w3, w4, w5⟩ := hw2 j (by omega)
        rw [if_neg (o_ne1 (by omega)), gb_ck_s (o_in (by omega) (by omega)), gb_ck_s (o_in (by omega) (by omega)), gb_ck_s (o_in (by omega) (by omega)), gb_ck_s (o_in (by omega) (by omega)), o_cl (by omega), (hu k (by omega) (by omega)).1, (hu k (by omega) (by omega)).2, (hu j (by omega) j3).1, (hu j (by omega) j3).2, o_mul, o_mul]
        have p1 : u k * d j ≤ 12 * 12 := Nat.mul_le_mul q3 w5
        have p2 : u j * d k ≤ 12 * 12 := Nat.mul_le_mul w3 q5
        have eI : (Int32.ofNat (u k * d j) - Int32.ofNat (u j * d k)).toInt = ((u k * d j : Nat) : Int) - ((u j * d k : Nat) : Int) := by
          rw [i_sub, o_int (by omega), o_int (by omega)] <;> rw [o_int (by omega), o_int (by omega)] <;> omega
        have ec : sg * (Int32.ofNat (u k * d j) - Int32.ofNat (u j * d k)) ≤ 0 ↔ ¬ ((fs r c u d k).2 = 0 ∨ (r = 2 ∧ (fs r c u d k).1 * d k < u k * (fs r c u d k).2) ∨ (¬ r = 2 ∧ u k * (fs r c u d k).2 < (fs r c u d k).1 * d k)) := by
          rw [j4]
          show _ ↔ ¬ (d j = 0 ∨ (r = 2 ∧ u j * d k < u k * d j) ∨ (¬ r = 2 ∧ u k * d j < u j * d k))
          rcases hr with ⟨h1, h2⟩ | ⟨h1, h2⟩
          · rw [h2, Int32.one_mul, Int32.le_iff_toInt_le, Int32.toInt_zero, eI]
            omega
          · rw [h2, Int32.le_iff_toInt_le, Int32.toInt_zero, i_mul, show (-1 : Int32).toInt = -1 from rfl, eI]
            · omega
            · rw [show (-1 : Int32).toInt = -1 from rfl, eI]; omega
            · rw [show (-1 : Int32).toInt = -1 from rfl, eI]; omega
        by_cases q : sg * (Int32.ofNat (u k * d j) - Int32.ofNat (u j * d k)) ≤ 0
        · rw [if_pos q]
          refine ih (k + 1) f _ (by omega) (by omega) (Or.inr ⟨j, by omega, rfl, j3, ?_⟩)
          rw [fs, if_neg r0, if_neg r1, if_neg (fun z => (ec.1 q) z.2)]
          exact j4
        · rw [if_neg q]
          refine ih (k + 1) f _ (by omega) (by omega) (Or.inr ⟨k, by omega, rfl, by omega, ?_⟩)
          have q' : (fs r c u d k).2 = 0 ∨ (r = 2 ∧ (fs r c u d k).1 * d k < u k * (fs r c u d k).2) ∨ (¬ r = 2 ∧ u k * (fs r c u d k).2 < (fs r c u d k).1 * d k) := Classical.byContradiction fun z => q (ec.2 z)
          rw [fs, if_neg r0, if_neg r1, if_pos ⟨by omega, q'⟩]
theorem rk_140 {sh : List gb_Sh} {g : gb_G} {n a2 a3 b4 r : Nat} {c b p u d : Nat → Nat} {sg : Int32} (hw : wfF n c b p) (hw2 : ∀ i, i < n → c i ≤ 99 ∧ 1 ≤ u i ∧ u i ≤ 12 ∧ 1 ≤ d i ∧ d i ≤ 12) (hF : cvF g n c b p) (hu : ∀ i, i < n → 0 < c i → g.1 a2 i = Int32.ofNat (u i) ∧ g.1 a3 i = Int32.ofNat (d i)) (hr : (r = 2 ∧ sg = 1) ∨ (r = 3 ∧ sg = -1)) (h0 : g.2.1 b4 0 = 0) (h1 : g.2.1 b4 1 = 1) : gb_T (f_X1_reckon_140 sh a2 a3 b4 g sg) (fun o => o.2.1 b4 0 = Int64.ofNat (FG r n c u d).1 ∧ o.2.1 b4 1 = Int64.ofNat (FG r n c u d).2 ∧ o.1 = g.1) := by
  have hn := hw.1
  unfold f_X1_reckon_140 f_X1_outermost
  obtain ⟨⟨o, y⟩, e, e1, e2⟩ := om_6 (sh := sh) hw hw2 hF hu hr n 0 gb_N (-1) (by omega) (by unfold gb_N; omega) (Or.inl ⟨rfl, rfl⟩)
  have e1' : o = g := e1
  subst e1'
  refine gb_T.bs e ?_
  simp only []
  rw [hF.1]
  rcases e2 with ⟨y1, y2⟩ | ⟨j, j1, j2, j3, j4⟩
  · have y1' : y = -1 := y1
    subst y1'
    rw [within_f (lo := 0) (hi := (n : Int) - 1) (fun q => by have := q.1; rw [show (-1 : Int32).toInt = -1 from rfl] at this; omega) rfl (n_pred (by omega)), bf]
    refine ⟨_, rfl, ?_, ?_, rfl⟩
    · rw [h0]; unfold FG; rw [y2, if_pos rfl]; rfl
    · rw [h1]; unfold FG; rw [y2, if_pos rfl]; rfl
  · have j2' : y = Int32.ofNat j := j2
    subst j2'
    obtain ⟨w1, w2, w3, w4, w5⟩ := hw2 j (by omega)
    rw [within_t (o_im n j1 (by omega)) rfl (n_pred (by omega)), bt, gb_ck_s (o_in (by omega) (by omega)), gb_ck_s (o_in (by omega) (by omega)), o_cl (by omega), (hu j j1 j3).1, (hu j j1 j3).2, n64 (by omega), n64 (by omega), put_N (by omega) (by omega) (by omega), gb_bd_s]
    have ef : FG r n c u d = red (u j) (d j) := by
      unfold FG; rw [j4, if_neg (by show ¬ d j = 0; omega)]
    rw [ef]
    exact ⟨_, rfl, by rw [pj_n (by omega), pj_e], pj_e, rfl⟩
theorem rk {sh : List gb_Sh} {g : gb_G} {n a2 a3 b4 r : Nat} {c b p u d : Nat → Nat} (hb4 : 61 ≤ b4) (hw : wfF n c b p) (hw2 : ∀ i, i < n → c i ≤ 99 ∧ 1 ≤ u i ∧ u i ≤ 12 ∧ 1 ≤ d i ∧ d i ≤ 12) (hF : cvF g n c b p) (hu : ∀ i, i < n → 0 < c i → g.1 a2 i = Int32.ofNat (u i) ∧ g.1 a3 i = Int32.ofNat (d i)) (hr : r ≤ 3) : gb_T (f_X1_reckon sh g (Int32.ofNat r) a2 a3 b4) (fun o => o.2.1 b4 0 = Int64.ofNat (FG r n c u d).1 ∧ o.2.1 b4 1 = Int64.ofNat (FG r n c u d).2 ∧ o.1 = g.1) := by
  have hn := hw.1
  have hz := fs_z (r := r) (c := c) (u := u) (d := d) n fun i hi => (hw2 i hi).2.2.2.1
  unfold f_X1_reckon
  have p0 : f_X2_put sh g b4 0 1 = some (gb_pj (gb_pj g b4 0 0) b4 1 1) := put_N (A := 0) (B := 1) (by omega) (by omega) (by omega)
  obtain ⟨g1, hg1⟩ : ∃ q, q = gb_pj (gb_pj g b4 0 0) b4 1 1 := ⟨_, rfl⟩
  rw [p0, gb_bd_s, ← hg1]
  have e1 : g1.1 = g.1 := by rw [hg1]; rfl
  have hF1 : cvF g1 n c b p := cvF_fr hF fun _ _ _ => by rw [e1]
  have hu1 : ∀ i, i < n → 0 < c i → g1.1 a2 i = Int32.ofNat (u i) ∧ g1.1 a3 i = Int32.ofNat (d i) := by rw [e1]; exact hu
  have h0 : g1.2.1 b4 0 = 0 := by rw [hg1, pj_n (by omega), pj_e]
  have h1 : g1.2.1 b4 1 = 1 := by rw [hg1, pj_e]
  rw [cnt_a hw hF1, gb_bd_s]
  simp only []
  have hC : nsum c n ≤ n * 99 := nsum_b n fun i hi => (hw2 i hi).1
  by_cases q : nsum c n = 0
  · rw [if_pos (by rw [q]; rfl)]
    have ef : FG r n c u d = (0, 1) := by unfold FG; rw [if_pos (hz.2 q)]
    rw [ef]
    exact ⟨_, rfl, h0, h1, e1⟩
  · rw [if_neg (show ¬ Int32.ofNat (nsum c n) = 0 from fun z => q (o_inj (j := 0) (by omega) (by omega) z))]
    have hr' : r = 0 ∨ r = 1 ∨ r = 2 ∨ r = 3 := by omega
    rcases hr' with rfl | rfl | rfl | rfl
    · rw [if_pos (by decide), wei_a hw hF1 (fun i hi q => (hu1 i hi q).1) (fun i hi => (hw2 i hi).2.2.1), gb_bd_s]
      simp only []
      rw [wei_a hw hF1 (fun i hi q => (hu1 i hi q).2) (fun i hi => (hw2 i hi).2.2.2.2), gb_bd_s]
      simp only []
      have b1 : nsum (fun i => c i * u i) n ≤ n * 1188 := nsum_b n fun i hi => Nat.mul_le_mul (hw2 i hi).1 (hw2 i hi).2.2.1
      have b2 : nsum (fun i => c i * d i) n ≤ n * 1188 := nsum_b n fun i hi => Nat.mul_le_mul (hw2 i hi).1 (hw2 i hi).2.2.2.2
      rw [fs_0] at hz
      have hz' : nsum (fun i => c i * d i) n = 0 ↔ nsum c n = 0 := hz
      rw [put_N (by omega) (by omega) (by omega), gb_bd_s]
      have ef : FG 0 n c u d = red (nsum (fun i => c i * u i) n) (nsum (fun i => c i * d i) n) := by
        unfold FG; rw [fs_0, if_neg (fun z => q (hz'.1 z))]
      rw [ef]
      exact ⟨_, rfl, by rw [pj_n (by omega), pj_e], pj_e, e1⟩
    · rw [if_neg (by decide), if_pos (by decide)]
      obtain ⟨o, eo, o1, o2, o3⟩ := rk_65 (sh := sh) hb4 hw hw2 q n 0 gb_N g1 (by omega) (by unfold gb_N; omega) hF1 hu1 (by rw [h0, nsum, red_0 (by omega)]; rfl) (by rw [h1, nsum, red_0 (by omega)]; rfl)
      exact ⟨o, eo, o1, o2, o3.trans e1⟩
    · rw [if_neg (by decide), if_neg (by decide), if_pos (by decide)]
      obtain ⟨o, eo, o1, o2, o3⟩ := rk_140 (sh := sh) (r := 2) (sg := 1) hw hw2 hF1 hu1 (Or.inl ⟨rfl, rfl⟩) h0 h1
      exact ⟨o, eo, o1, o2, o3.trans e1⟩
    · rw [if_neg (by decide), if_neg (by decide), if_neg (by decide)]
      obtain ⟨o, eo, o1, o2, o3⟩ := rk_140 (sh := sh) (r := 3) (sg := -1) hw hw2 hF1 hu1 (Or.inr ⟨rfl, rfl⟩) h0 h1
      exact ⟨o, eo, o1, o2, o3.trans e1⟩
/-- so many times a figure, cut -/
def TH (n : Nat) (c b p : Nat → Nat) (K : Nat) : Nat := if nsum (fun i => c i * b i) n = 0 then 0 else K * nsum (fun i => c i * p i) n / nsum (fun i => c i * b i) n
theorem ct_a {sh : List gb_Sh} {g : gb_G} {n K : Nat} {c b p : Nat → Nat} (hK : K ≤ 1000) (hw : wfF n c b p) (hF : cvF g n c b p) : f_X1_cutTimes sh g (Int32.ofNat K) = some (g, Int32.ofNat (TH n c b p K)) := by
  have hn := hw.1
  have b1 : nsum (fun i => c i * p i) n ≤ n * 1188 := nsum_b n fun i hi => Nat.mul_le_mul (hw.2 i hi).1 (hw.2 i hi).2.2.2.2
  have b2 : nsum (fun i => c i * b i) n ≤ n * 1188 := nsum_b n fun i hi => Nat.mul_le_mul (hw.2 i hi).1 (hw.2 i hi).2.2.1
  have b3 : K * nsum (fun i => c i * p i) n ≤ 1000 * (n * 1188) := Nat.mul_le_mul hK b1
  unfold f_X1_cutTimes TH
  rw [wei_a hw hF (fun i hi q => ((hF.2 i hi).2 q).1) (fun i hi => (hw.2 i hi).2.2.1), gb_bd_s]
  simp only []
  by_cases q : nsum (fun i => c i * b i) n = 0
  · rw [if_pos ((z64 (by omega)).2 q), if_pos q]; rfl
  · rw [if_neg (fun z => q ((z64 (by omega)).1 z)), if_neg q, wei_a hw hF (fun i hi q => ((hF.2 i hi).2 q).2) (fun i hi => (hw.2 i hi).2.2.2.2), gb_bd_s, gb_nzl_s (fun z => q (l_eq0 (by omega) z))]
    simp only []
    rw [n64 (by omega), m64, l_div (by omega) (by omega), i32]
theorem hu_a {sh : List gb_Sh} {g : gb_G} {n : Nat} {c b p : Nat → Nat} (hw : wfF n c b p) (hF : cvF g n c b p) : f_X1_hundredths sh g = some (g, if nsum c n = 0 then 100 else Int32.ofNat (TH n c b p 100)) := by
  have hn := hw.1
  have hC : nsum c n ≤ n * 99 := nsum_b n fun i hi => (hw.2 i hi).1
  unfold f_X1_hundredths
  rw [cnt_a hw hF, gb_bd_s]
  simp only []
  by_cases q : nsum c n = 0
  · rw [if_pos q, if_pos (by rw [q]; rfl)]
  · rw [if_neg q, if_neg (show ¬ Int32.ofNat (nsum c n) = 0 from fun z => q (o_inj (j := 0) (by omega) (by omega) z)), show (100 : Int32) = Int32.ofNat 100 from rfl, ct_a (by omega) hw hF, gb_bd_s]
theorem th_a {sh : List gb_Sh} {g : gb_G} {n : Nat} {c b p : Nat → Nat} (hw : wfF n c b p) (hF : cvF g n c b p) : f_X1_thousandths sh g = some (g, Int32.ofNat (TH n c b p 1000)) := by
  unfold f_X1_thousandths
  rw [show (1000 : Int32) = Int32.ofNat 1000 from rfl, ct_a (by omega) hw hF, gb_bd_s]
