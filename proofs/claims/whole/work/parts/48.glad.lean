/-! ===== glad: the cheapest basket ===== -/
def mnv (c : Nat → Nat) : Nat → Nat
  | 0 => 100000000
  | j + 1 => if c j < mnv c j then c j else mnv c j
def fmi (c : Nat → Nat) : Nat → Nat
  | 0 => 0
  | j + 1 => if c (j + 1) < c (fmi c j) then j + 1 else fmi c j
theorem fm_le {c : Nat → Nat} : ∀ j, fmi c j ≤ j := by
  intro j
  induction j with
  | zero => exact Nat.le_refl _
  | succ j ih => rw [fmi]; split <;> omega
theorem fm_min {c : Nat → Nat} : ∀ j i, i ≤ j → c (fmi c j) ≤ c i := by
  intro j
  induction j with
  | zero => intro i hi; rw [show i = 0 by omega]; exact Nat.le_refl _
  | succ j ih =>
    intro i hi
    rw [fmi]
    by_cases q : c (j + 1) < c (fmi c j)
    · rw [if_pos q]
      by_cases e : i = j + 1
      · rw [e]; exact Nat.le_refl _
      · have := ih i (by omega); omega
    · rw [if_neg q]
      by_cases e : i = j + 1
      · rw [e]; omega
      · exact ih i (by omega)
theorem fm_first {c : Nat → Nat} : ∀ j i, i < fmi c j → c (fmi c j) < c i := by
  intro j
  induction j with
  | zero => intro i hi; exact absurd hi (Nat.not_lt_zero _)
  | succ j ih =>
    intro i hi
    rw [fmi] at hi ⊢
    by_cases q : c (j + 1) < c (fmi c j)
    · rw [if_pos q] at hi ⊢
      have := fm_min (c := c) j i (by omega)
      omega
    · rw [if_neg q] at hi ⊢
      exact ih i hi
theorem fm_stop {c : Nat → Nat} {j : Nat} : ∀ d, (∀ i, j < i → i ≤ j + d → c j ≤ c i) → fmi c (j + d) = fmi c j := by
  intro d
  induction d with
  | zero => intro _; rfl
  | succ d ih =>
    intro h
    have e := ih fun i h1 h2 => h i h1 (by omega)
    rw [← Nat.add_assoc, fmi, e, if_neg]
    have h1 := h (j + d + 1) (by omega) (by omega)
    have h2 := fm_min (c := c) j j (Nat.le_refl _)
    omega
theorem mn_fm {c : Nat → Nat} : ∀ j, (∀ i, i ≤ j → c i ≤ 100000000) → mnv c (j + 1) = c (fmi c j) := by
  intro j
  induction j with
  | zero =>
    intro h
    have h0 := h 0 (by omega)
    rw [mnv, mnv, fmi]
    by_cases q : c 0 < 100000000
    · rw [if_pos q]
    · rw [if_neg q]; omega
  | succ j ih =>
    intro h
    have e := ih fun i hi => h i (by omega)
    rw [mnv, e, fmi]
    by_cases q : c (j + 1) < c (fmi c j)
    · rw [if_pos q, if_pos q]
    · rw [if_neg q, if_neg q]
def cst (N G : Nat) (L : Nat → Nat) (w m : Nat) : Nat := if L (w - m * G) = 100000000 then 100000000 else m * N + L (w - m * G)
def LD (n : Nat) (N G M : Nat → Nat) : Nat → Nat → Nat
  | 0, w => if w = 0 then 0 else 100000000
  | d + 1, w => cst (N (n - 1 - d)) (G (n - 1 - d)) (LD n N G M d) w (fmi (cst (N (n - 1 - d)) (G (n - 1 - d)) (LD n N G M d) w) (M (n - 1 - d)))
/-- goods that are wares -/
def wfG (n : Nat) (N G M : Nat → Nat) : Prop := n ≤ 8 ∧ ∀ i, i < n → 1 ≤ N i ∧ N i ≤ 12 ∧ G i ≤ 9 ∧ M i ≤ 9
theorem wfG_of {β : ms_B} (hw : wfB β) : wfG (bN β) (wN β) (wG β) (wMo β) := ⟨hw.1, fun i hi => ⟨(wN_b hw hi).1, (wN_b hw hi).2, wG_b hw hi, by unfold wMo; split <;> omega⟩⟩
theorem LD_b {n : Nat} {N G M : Nat → Nat} (hG : wfG n N G M) : ∀ d, d ≤ n → ∀ w, LD n N G M d w = 100000000 ∨ LD n N G M d w ≤ d * 108 := by
  intro d
  induction d with
  | zero =>
    intro _ w
    rw [LD]
    split
    · right; omega
    · left; rfl
  | succ d ih =>
    intro hd w
    rw [LD]
    generalize hm : fmi (cst (N (n - 1 - d)) (G (n - 1 - d)) (LD n N G M d) w) (M (n - 1 - d)) = m
    have hml := fm_le (c := cst (N (n - 1 - d)) (G (n - 1 - d)) (LD n N G M d) w) (M (n - 1 - d))
    rw [hm] at hml
    obtain ⟨g1, g2, g3, g4⟩ := hG.2 (n - 1 - d) (by omega)
    have p : m * N (n - 1 - d) ≤ 9 * 12 := Nat.mul_le_mul (by omega) g2
    unfold cst
    by_cases q : LD n N G M d (w - m * G (n - 1 - d)) = 100000000
    · rw [if_pos q]; exact Or.inl rfl
    · rw [if_neg q]
      rcases ih (by omega) (w - m * G (n - 1 - d)) with z | z
      · exact absurd z q
      · right; rw [Nat.succ_mul]; omega
theorem LD_z {n : Nat} {N G M : Nat → Nat} (hG : wfG n N G M) : ∀ d, d ≤ n → LD n N G M d 0 = 0 := by
  intro d
  induction d with
  | zero => intro _; rw [LD, if_pos rfl]
  | succ d ih =>
    intro hd
    rw [LD]
    have e := ih (by omega)
    have h := fm_min (c := cst (N (n - 1 - d)) (G (n - 1 - d)) (LD n N G M d) 0) (M (n - 1 - d)) 0 (by omega)
    have e0 : cst (N (n - 1 - d)) (G (n - 1 - d)) (LD n N G M d) 0 0 = 0 := by
      unfold cst
      rw [Nat.zero_sub, e, if_neg (by omega), Nat.zero_mul]
    rw [e0] at h
    omega
theorem cst_b {N G w m d : Nat} {L : Nat → Nat} (hL : ∀ w, L w = 100000000 ∨ L w ≤ d * 108) (hd : d ≤ 8) (hN : N ≤ 12) (hm : m ≤ 9) : cst N G L w m = 100000000 ∨ cst N G L w m ≤ 972 := by
  have p : m * N ≤ 9 * 12 := Nat.mul_le_mul hm hN
  unfold cst
  by_cases q : L (w - m * G) = 100000000
  · rw [if_pos q]; exact Or.inl rfl
  · rw [if_neg q]
    rcases hL (w - m * G) with z | z
    · exact absurd z q
    · right; omega
/-- as the class holds what costs too much -/
def clp (x : Nat) : Nat := if x = 100000000 then 1000000 else x
theorem clp_b {x : Nat} (h : x = 100000000 ∨ x ≤ 972) : clp x ≤ 1000000 := by
  unfold clp; split <;> omega
theorem clp_lt {x y : Nat} (hx : x = 100000000 ∨ x ≤ 972) (hy : y = 100000000 ∨ y ≤ 972) : clp x < clp y ↔ x < y := by
  unfold clp; split <;> split <;> omega
theorem near_sub {w p : Nat} (hw : w ≤ 99) (hp : p ≤ 1000) : ms_near (Int32.ofNat w - Int32.ofNat p) 0 99 = Int32.ofNat (w - p) := by
  have e : (Int32.ofNat w - Int32.ofNat p).toInt = (w : Int) - p := by
    rw [i_sub, o_int (by omega), o_int (by omega)] <;> rw [o_int (by omega), o_int (by omega)] <;> omega
  unfold ms_near
  have e1 : (if Int32.ofNat w - Int32.ofNat p < 99 then Int32.ofNat w - Int32.ofNat p else 99) = Int32.ofNat w - Int32.ofNat p := by
    by_cases c : Int32.ofNat w - Int32.ofNat p < 99
    · rw [if_pos c]
    · rw [if_neg c]
      rw [Int32.lt_iff_toInt_lt, e, show (99 : Int32).toInt = 99 from rfl] at c
      exact Int32.toInt_inj.1 (by rw [e, show (99 : Int32).toInt = 99 from rfl]; omega)
  rw [e1]
  by_cases c : (0 : Int32) < Int32.ofNat w - Int32.ofNat p
  · rw [if_pos c]
    rw [Int32.lt_iff_toInt_lt, e, Int32.toInt_zero] at c
    exact Int32.toInt_inj.1 (by rw [e, o_int (by omega)]; omega)
  · rw [if_neg c]
    rw [Int32.lt_iff_toInt_lt, e, Int32.toInt_zero] at c
    rw [show w - p = 0 by omega]; rfl
theorem cw_c {sh : List gb_Sh} {g : gb_G} {k w m d N G X : Nat} {L : Nat → Nat} (hk : k < 8) (hX : X ≤ 99) (hw : w ≤ X) (hm : m ≤ 9) (hL : ∀ w, L w = 100000000 ∨ L w ≤ d * 108) (hd : d ≤ 8) (hN : N ≤ 12) (hG : G ≤ 9) (h66 : g.1 66 k = Int32.ofNat N) (h67 : g.1 67 k = Int32.ofNat G) (hT : ∀ w, w ≤ X → g.1 64 (100 * (k + 1) + w) = Int32.ofNat (clp (L w))) : f_X6_costWith sh g (Int32.ofNat k) (Int32.ofNat w) (Int32.ofNat m) = some (g, Int32.ofNat (clp (cst N G L w m))) := by
  have p : m * G ≤ 9 * 9 := Nat.mul_le_mul hm hG
  have p2 : m * N ≤ 9 * 12 := Nat.mul_le_mul hm hN
  unfold f_X6_costWith
  rw [gb_ck_s (o_in hk (by omega)), o_cl (by omega), h67, o_mul, near_e, near_sub (by omega) (by omega), gb_bd_s]
  simp only []
  rw [gb_ck_s (o_in hk (by omega)), o_succ, show (100 : Int32) = Int32.ofNat 100 from rfl, o_mul, o_add, gb_ck_s (o_in (by omega) (by omega)), o_cl (by omega), h66, o_mul, show (k + 1) * 100 + (w - m * G) = 100 * (k + 1) + (w - m * G) by omega, hT _ (by omega), o_add]
  have hcl : clp (L (w - m * G)) ≤ 1000000 := by
    unfold clp
    rcases hL (w - m * G) with z | z
    · rw [if_pos z]; omega
    · split <;> omega
  have e : f_J9_min_7cf53 sh g 1000000 (Int32.ofNat (m * N + clp (L (w - m * G)))) = some (g, Int32.ofNat (clp (cst N G L w m))) := by
    unfold f_J9_min_7cf53 cst
    by_cases q : L (w - m * G) = 100000000
    · rw [if_pos q, q]
      rw [if_neg (by rw [show clp 100000000 = 1000000 from rfl, show (1000000 : Int32) = Int32.ofNat 1000000 from rfl, o_lt (by omega) (by omega)]; omega)]
      rfl
    · rw [if_neg q]
      rcases hL (w - m * G) with z | z
      · exact absurd z q
      · have e1 : clp (L (w - m * G)) = L (w - m * G) := if_neg q
        have e2 : clp (m * N + L (w - m * G)) = m * N + L (w - m * G) := if_neg (by omega)
        rw [e1, e2, if_pos (by rw [show (1000000 : Int32) = Int32.ofNat 1000000 from rfl, o_lt (by omega) (by omega)]; omega)]
  rw [e, gb_bd_s]
theorem ba_14 {sh : List gb_Sh} {g : gb_G} {k w d N G X M : Nat} {L : Nat → Nat} (hk : k < 8) (hX : X ≤ 99) (hw : w ≤ X) (hM : M ≤ 9) (hL : ∀ w, L w = 100000000 ∨ L w ≤ d * 108) (hL0 : L 0 = 0) (hd : d ≤ 8) (hN : N ≤ 12) (hG : G ≤ 9) (h66 : g.1 66 k = Int32.ofNat N) (h67 : g.1 67 k = Int32.ofNat G) (h68 : g.1 68 k = Int32.ofNat M) (hT : ∀ w, w ≤ X → g.1 64 (100 * (k + 1) + w) = Int32.ofNat (clp (L w))) : ∀ (m j fuel : Nat), j + m = M → m < fuel → f_X6_bestAmount_14 sh fuel g (Int32.ofNat k) (Int32.ofNat w) (Int32.ofNat (fmi (cst N G L w) j)) (Int32.ofNat (clp (cst N G L w (fmi (cst N G L w) j)))) (Int32.ofNat (j + 1)) = some (g, Int32.ofNat (fmi (cst N G L w) M)) := by
  intro m
  induction m with
  | zero =>
    intro j fuel h hf
    obtain ⟨f, rfl⟩ : ∃ f, fuel = f + 1 := ⟨fuel - 1, by omega⟩
    have e : j = M := by omega
    subst e
    rw [f_X6_bestAmount_14, gb_ck_s (o_in hk (by omega)), o_cl (by omega), h68, if_pos (by rw [o_lt (by omega) (by omega)]; omega)]
  | succ m ih =>
    intro j fuel h hf
    obtain ⟨f, rfl⟩ : ∃ f, fuel = f + 1 := ⟨fuel - 1, by omega⟩
    have p : j * G ≤ 9 * 9 := Nat.mul_le_mul (by omega) hG
    rw [f_X6_bestAmount_14, gb_ck_s (o_in hk (by omega)), o_cl (by omega), h68, if_neg (by rw [o_lt (by omega) (by omega)]; omega), gb_ck_s (o_in hk (by omega)), h67, o_pred, o_mul]
    by_cases q : w ≤ j * G
    · rw [if_pos (by rw [o_le (by omega) (by omega)]; exact q)]
      have z := fm_stop (c := cst N G L w) (j := j) (M - j) fun i h1 h2 => by
        have p1 : j * G ≤ i * G := Nat.mul_le_mul_right G (by omega)
        have p2 : j * N ≤ i * N := Nat.mul_le_mul_right N (by omega)
        unfold cst
        rw [show w - j * G = 0 by omega, show w - i * G = 0 by omega, hL0, if_neg (by omega), if_neg (by omega)]
        omega
      rw [show j + (M - j) = M by omega] at z
      rw [z]
    · rw [if_neg (by rw [o_le (by omega) (by omega)]; exact q), cw_c hk hX hw (by omega) hL hd hN hG h66 h67 hT, gb_bd_s]
      simp only []
      unfold f_X6_bestAmount_64
      rw [o_succ]
      have b1 := cst_b (N := N) (G := G) (w := w) (m := j + 1) hL hd hN (by omega)
      have hfl := fm_le (c := cst N G L w) j
      have b2 := cst_b (N := N) (G := G) (w := w) (m := fmi (cst N G L w) j) hL hd hN (by omega)
      have ih2 := ih (j + 1) f (by omega) (by omega)
      rw [fmi] at ih2
      have c1 := clp_b b1
      have c2 := clp_b b2
      by_cases q2 : cst N G L w (j + 1) < cst N G L w (fmi (cst N G L w) j)
      · rw [if_neg (by rw [o_le (by omega) (by omega)]; have := (clp_lt b1 b2).2 q2; omega)]
        rw [if_pos q2] at ih2
        exact ih2
      · rw [if_pos (by rw [o_le (by omega) (by omega)]; have := mt (clp_lt b1 b2).1 q2; omega)]
        rw [if_neg q2] at ih2
        exact ih2
theorem ba_c {sh : List gb_Sh} {g : gb_G} {k w d N G X M : Nat} {L : Nat → Nat} (hk : k < 8) (hX : X ≤ 99) (hw : w ≤ X) (hM : M ≤ 9) (hL : ∀ w, L w = 100000000 ∨ L w ≤ d * 108) (hL0 : L 0 = 0) (hd : d ≤ 8) (hN : N ≤ 12) (hG : G ≤ 9) (h66 : g.1 66 k = Int32.ofNat N) (h67 : g.1 67 k = Int32.ofNat G) (h68 : g.1 68 k = Int32.ofNat M) (hT : ∀ w, w ≤ X → g.1 64 (100 * (k + 1) + w) = Int32.ofNat (clp (L w))) : f_X6_bestAmount sh g (Int32.ofNat k) (Int32.ofNat w) = some (g, Int32.ofNat (fmi (cst N G L w) M)) := by
  unfold f_X6_bestAmount
  rw [show f_X6_costWith sh g (Int32.ofNat k) (Int32.ofNat w) 0 = _ from cw_c (m := 0) hk hX hw (by omega) hL hd hN hG h66 h67 hT, gb_bd_s]
  exact ba_14 hk hX hw hM hL hL0 hd hN hG h66 h67 h68 hT M 0 gb_N (by omega) (by unfold gb_N; omega)
/-- the class' table, from a good on -/
def cvTb (g : gb_G) (n X j : Nat) (N G M : Nat → Nat) : Prop := ∀ k, j ≤ k → k ≤ n → ∀ w, w ≤ X → g.1 64 (100 * k + w) = Int32.ofNat (clp (LD n N G M (n - k) w))
def gA (n : Nat) (N G M : Nat → Nat) (k w : Nat) : Nat := fmi (cst (N k) (G k) (LD n N G M (n - 1 - k)) w) (M k)
def gR (n : Nat) (N G M : Nat → Nat) (x : Nat) : Nat → Nat
  | 0 => x
  | k + 1 => gR n N G M x k - gA n N G M k (gR n N G M x k) * G k
theorem gR_b {n : Nat} {N G M : Nat → Nat} {x : Nat} : ∀ k, gR n N G M x k ≤ x := by
  intro k
  induction k with
  | zero => exact Nat.le_refl _
  | succ k ih => rw [gR]; omega
theorem LD_s {n k : Nat} {N G M : Nat → Nat} (hk : k < n) (w : Nat) : LD n N G M (n - k) w = cst (N k) (G k) (LD n N G M (n - 1 - k)) w (gA n N G M k w) := by
  rw [show n - k = (n - 1 - k) + 1 by omega, LD, show n - 1 - (n - 1 - k) = k by omega]
  rfl
theorem bA_c {sh : List gb_Sh} {g : gb_G} {n k w X : Nat} {N G M : Nat → Nat} (hG : wfG n N G M) (hW : cvW g n N G M) (hk : k < n) (hX : X ≤ 99) (hw : w ≤ X) (hT : cvTb g n X (k + 1) N G M) : f_X6_bestAmount sh g (Int32.ofNat k) (Int32.ofNat w) = some (g, Int32.ofNat (gA n N G M k w)) ∧ f_X6_costWith sh g (Int32.ofNat k) (Int32.ofNat w) (Int32.ofNat (gA n N G M k w)) = some (g, Int32.ofNat (clp (LD n N G M (n - k) w))) := by
  have hn := hG.1
  obtain ⟨g1, g2, g3, g4⟩ := hG.2 k hk
  obtain ⟨w1, w2, w3⟩ := hW k hk
  have hL := LD_b hG (n - 1 - k) (by omega)
  have hL0 := LD_z hG (n - 1 - k) (by omega)
  have hT' : ∀ w, w ≤ X → g.1 64 (100 * (k + 1) + w) = Int32.ofNat (clp (LD n N G M (n - 1 - k) w)) := fun w hw => by
    rw [hT (k + 1) (Nat.le_refl _) (by omega) w hw, show n - (k + 1) = n - 1 - k by omega]
  refine ⟨ba_c (by omega) hX hw g4 hL hL0 (by omega) g2 g3 w1 w2 w3 hT', ?_⟩
  have hfl := fm_le (c := cst (N k) (G k) (LD n N G M (n - 1 - k)) w) (M k)
  rw [LD_s hk]
  exact cw_c (by omega) hX hw (by show fmi _ _ ≤ 9; omega) hL (by omega) g2 g3 w1 w2 hT'
theorem ch_131 {sh : List gb_Sh} {n X : Nat} {N G M : Nat → Nat} (hG : wfG n N G M) (hX : X ≤ 99) : ∀ (m k fuel : Nat) (g : gb_G), k + m = n → m < fuel → cvW g n N G M → cvTb g n X 0 N G M → (∀ i, i < k → g.1 65 i = Int32.ofNat (gA n N G M i (gR n N G M X i))) → gb_T (f_X6_cheapest_131 sh 1 fuel g (Int32.ofNat n) (Int32.ofNat X) (Int32.ofNat (gR n N G M X k)) (Int32.ofNat k)) (fun o => o.2 = (if LD n N G M n X = 100000000 then -1 else Int32.ofNat (LD n N G M n X)) ∧ ∀ i, i < n → o.1.1 65 i = Int32.ofNat (gA n N G M i (gR n N G M X i))) := by
  have hn := hG.1
  intro m
  induction m with
  | zero =>
    intro k fuel g h hf hW hT h65
    obtain ⟨f, rfl⟩ : ∃ f, fuel = f + 1 := ⟨fuel - 1, by omega⟩
    have e : k = n := by omega
    subst e
    have hx := hT 0 (by omega) (by omega) X (Nat.le_refl _)
    rw [show 100 * 0 + X = X by omega, Nat.sub_zero] at hx
    have hb := LD_b hG k (Nat.le_refl _) X
    rw [f_X6_cheapest_131, if_pos (Int32.le_refl _), gb_ck_s (o_in (by omega) (by omega)), o_cl (by omega), hx]
    by_cases q : LD k N G M k X = 100000000
    · rw [if_pos q, q, if_neg (by decide)]
      exact ⟨_, rfl, rfl, h65⟩
    · have e1 : clp (LD k N G M k X) = LD k N G M k X := if_neg q
      rcases hb with z | z
      · exact absurd z q
      · rw [if_neg q, e1, if_pos (by rw [show (1000000 : Int32) = Int32.ofNat 1000000 from rfl, o_lt (by omega) (by omega)]; omega), gb_ck_s (o_in (by omega) (by omega))]
        exact ⟨_, rfl, rfl, h65⟩
  | succ m ih =>
    intro k fuel g h hf hW hT h65
    obtain ⟨f, rfl⟩ : ∃ f, fuel = f + 1 := ⟨fuel - 1, by omega⟩
    obtain ⟨g1, g2, g3, g4⟩ := hG.2 k (by omega)
    have hr := gR_b (n := n) (N := N) (G := G) (M := M) (x := X) k
    have hfl : gA n N G M k (gR n N G M X k) ≤ M k := fm_le _
    have p : gA n N G M k (gR n N G M X k) * G k ≤ 9 * 9 := Nat.mul_le_mul (by omega) g3
    rw [f_X6_cheapest_131, if_neg (by rw [o_le (by omega) (by omega)]; omega), (bA_c hG hW (by omega) hX hr (fun k' h1 h2 => hT k' (by omega) h2)).1, gb_bd_s, gb_ck_s (o_in (by omega) (by omega)), gb_let_s, gb_ck_s (o_in (by omega) (by omega)), gb_ck_s (o_in (by omega) (by omega)), o_cl (by omega)]
    simp only []
    rw [pi_e, pi_n (by omega), (hW k (by omega)).2.1, o_mul]
    have mx : ∀ g : gb_G, f_J9_max_7cf53 sh g 0 (Int32.ofNat (gR n N G M X k) - Int32.ofNat (gA n N G M k (gR n N G M X k) * G k)) = some (g, Int32.ofNat (gR n N G M X (k + 1))) := by
      intro g
      have e : (Int32.ofNat (gR n N G M X k) - Int32.ofNat (gA n N G M k (gR n N G M X k) * G k)).toInt = (gR n N G M X k : Int) - ((gA n N G M k (gR n N G M X k) * G k : Nat) : Int) := by
        rw [i_sub, o_int (by omega), o_int (by omega)] <;> rw [o_int (by omega), o_int (by omega)] <;> omega
      unfold f_J9_max_7cf53
      rw [gR]
      by_cases c : (0 : Int32) < Int32.ofNat (gR n N G M X k) - Int32.ofNat (gA n N G M k (gR n N G M X k) * G k)
      · rw [if_pos c]
        rw [Int32.lt_iff_toInt_lt, e, Int32.toInt_zero] at c
        rw [a_sub (by omega)]
      · rw [if_neg c]
        rw [Int32.lt_iff_toInt_lt, e, Int32.toInt_zero] at c
        rw [show gR n N G M X k - gA n N G M k (gR n N G M X k) * G k = 0 by omega]; rfl
    rw [mx, gb_bd_s, o_succ]
    refine ih (k + 1) f _ (by omega) (by omega) (fun i hi => by rw [pi_n (by omega), pi_n (by omega), pi_n (by omega)]; exact hW i hi) (fun k' h1 h2 w hw => (pi_n (by omega)).trans (hT k' h1 h2 w hw)) (fun i hi => ?_)
    by_cases ei : i = k
    · rw [ei, pi_e]
    · rw [pi_n (by omega)]; exact h65 i (by omega)
theorem ch_76 {sh : List gb_Sh} {n X k : Nat} {N G M : Nat → Nat} {K : gb_G → Int32 → Int32 → Int32 → Option (gb_G × Int32)} {P : gb_G × Int32 → Prop} (hG : wfG n N G M) (hX : X ≤ 99) (hk : k < n) (hK : ∀ g, cvW g n N G M → cvTb g n X k N G M → gb_T (K g (Int32.ofNat n) (Int32.ofNat X) (Int32.ofNat k + (-1))) P) : ∀ (m w fuel : Nat) (g : gb_G), w + m = X + 1 → m < fuel → cvW g n N G M → cvTb g n X (k + 1) N G M → (∀ v, v < w → g.1 64 (100 * k + v) = Int32.ofNat (clp (LD n N G M (n - k) v))) → gb_T (f_X6_cheapest_76 sh 1 K fuel g (Int32.ofNat n) (Int32.ofNat X) (Int32.ofNat k) (Int32.ofNat w)) P := by
  have hn := hG.1
  intro m
  induction m with
  | zero =>
    intro w fuel g h hf hW hT hv
    obtain ⟨f, rfl⟩ : ∃ f, fuel = f + 1 := ⟨fuel - 1, by omega⟩
    rw [f_X6_cheapest_76, if_pos (by rw [o_lt (by omega) (by omega)]; omega)]
    refine hK g hW fun k' h1 h2 v hv' => ?_
    by_cases e : k' = k
    · rw [e]; exact hv v (by omega)
    · exact hT k' (by omega) h2 v hv'
  | succ m ih =>
    intro w fuel g h hf hW hT hv
    obtain ⟨f, rfl⟩ : ∃ f, fuel = f + 1 := ⟨fuel - 1, by omega⟩
    obtain ⟨e1, e2⟩ := bA_c (sh := sh) (w := w) hG hW hk hX (by omega) hT
    rw [f_X6_cheapest_76, if_neg (by rw [o_lt (by omega) (by omega)]; omega), e1, gb_bd_s]
    simp only []
    rw [e2, gb_bd_s, show (100 : Int32) = Int32.ofNat 100 from rfl, o_mul, o_add, gb_ck_s (o_in (by omega) (by omega)), gb_let_s, o_cl (by omega), o_succ, show k * 100 + w = 100 * k + w by omega]
    refine ih (w + 1) f _ (by omega) (by omega) (fun i hi => by rw [pi_n (by omega), pi_n (by omega), pi_n (by omega)]; exact hW i hi) (fun k' h1 h2 v hv' => (pi_n (by omega)).trans (hT k' h1 h2 v hv')) (fun v hv' => ?_)
    by_cases ev : v = w
    · rw [ev, pi_e]
    · rw [pi_n (by omega)]; exact hv v (by omega)
theorem ch_68 {sh : List gb_Sh} {n X : Nat} {N G M : Nat → Nat} (hG : wfG n N G M) (hX : X ≤ 99) : ∀ (j fuel : Nat) (g : gb_G), j ≤ n → j < fuel → cvW g n N G M → cvTb g n X j N G M → gb_T (f_X6_cheapest_68 sh 1 fuel g (Int32.ofNat n) (Int32.ofNat X) (Int32.ofNat j - 1)) (fun o => o.2 = (if LD n N G M n X = 100000000 then -1 else Int32.ofNat (LD n N G M n X)) ∧ ∀ i, i < n → o.1.1 65 i = Int32.ofNat (gA n N G M i (gR n N G M X i))) := by
  have hn := hG.1
  intro j
  induction j with
  | zero =>
    intro fuel g h hf hW hT
    obtain ⟨f, rfl⟩ : ∃ f, fuel = f + 1 := ⟨fuel - 1, by omega⟩
    rw [f_X6_cheapest_68, if_pos (by decide)]
    exact ch_131 hG hX n 0 gb_N g (by omega) (by unfold gb_N; omega) hW hT (fun i hi => by omega)
  | succ j ih =>
    intro fuel g h hf hW hT
    obtain ⟨f, rfl⟩ : ∃ f, fuel = f + 1 := ⟨fuel - 1, by omega⟩
    rw [f_X6_cheapest_68, o_pred, if_neg (by rw [show (0 : Int32) = Int32.ofNat 0 from rfl, o_lt (by omega) (by omega)]; omega)]
    refine ch_76 hG hX (by omega) (fun g' hW' hT' => ?_) (X + 1) 0 gb_N g (by omega) (by unfold gb_N; omega) hW hT (fun v hv => by omega)
    rw [show Int32.ofNat j + (-1) = Int32.ofNat j - 1 from (Int32.sub_eq_add_neg _ _).symm]
    exact ih f g' (by omega) (by omega) hW' hT'
theorem ch_27 {sh : List gb_Sh} {n X : Nat} {N G M : Nat → Nat} (hG : wfG n N G M) (hX : X ≤ 99) : ∀ (m w fuel : Nat) (g : gb_G), w + m = X + 1 → m < fuel → cvW g n N G M → (∀ v, v < w → g.1 64 (100 * n + v) = Int32.ofNat (clp (LD n N G M 0 v))) → gb_T (f_X6_cheapest_27 sh 1 fuel g (Int32.ofNat n) (Int32.ofNat X) (Int32.ofNat w)) (fun o => o.2 = (if LD n N G M n X = 100000000 then -1 else Int32.ofNat (LD n N G M n X)) ∧ ∀ i, i < n → o.1.1 65 i = Int32.ofNat (gA n N G M i (gR n N G M X i))) := by
  have hn := hG.1
  intro m
  induction m with
  | zero =>
    intro w fuel g h hf hW hv
    obtain ⟨f, rfl⟩ : ∃ f, fuel = f + 1 := ⟨fuel - 1, by omega⟩
    rw [f_X6_cheapest_27, if_pos (by rw [o_lt (by omega) (by omega)]; omega)]
    refine ch_68 hG hX n gb_N g (Nat.le_refl _) (by unfold gb_N; omega) hW fun k' h1 h2 v hv' => ?_
    rw [show k' = n by omega, Nat.sub_self]
    exact hv v (by omega)
  | succ m ih =>
    intro w fuel g h hf hW hv
    obtain ⟨f, rfl⟩ : ∃ f, fuel = f + 1 := ⟨fuel - 1, by omega⟩
    rw [f_X6_cheapest_27, if_neg (by rw [o_lt (by omega) (by omega)]; omega), show (100 : Int32) = Int32.ofNat 100 from rfl, o_mul, o_add]
    have fin : ∀ z : Nat, z = clp (LD n N G M 0 w) → gb_T (f_X6_cheapest_56 sh 1 (fun w w0 w1 w2 => f_X6_cheapest_27 sh 1 f w w0 w1 w2) g (Int32.ofNat n) (Int32.ofNat X) (Int32.ofNat w) (Int32.ofNat z) (Int32.ofNat (n * 100 + w))) (fun o => o.2 = (if LD n N G M n X = 100000000 then -1 else Int32.ofNat (LD n N G M n X)) ∧ ∀ i, i < n → o.1.1 65 i = Int32.ofNat (gA n N G M i (gR n N G M X i))) := by
      intro z hz
      unfold f_X6_cheapest_56
      rw [gb_ck_s (o_in (by omega) (by omega)), gb_let_s, o_cl (by omega), o_succ, show n * 100 + w = 100 * n + w by omega]
      refine ih (w + 1) f _ (by omega) (by omega) (fun i hi => by rw [pi_n (by omega), pi_n (by omega), pi_n (by omega)]; exact hW i hi) (fun v hv' => ?_)
      by_cases ev : v = w
      · rw [ev, pi_e, hz]
      · rw [pi_n (by omega)]; exact hv v (by omega)
    by_cases q : w = 0
    · rw [if_pos (by rw [q]; rfl)]
      exact fin 0 (by rw [q]; rfl)
    · rw [if_neg (show ¬ Int32.ofNat w = 0 from fun z => q (o_inj (j := 0) (by omega) (by omega) z))]
      exact fin 1000000 (by rw [LD, if_neg q]; rfl)
theorem chp {sh : List gb_Sh} {g : gb_G} {β : ms_B} {X : Nat} (hw : wfB β) (hc : cvB sh g 1 β) (hX : X ≤ 99) : gb_T (f_X6_cheapest sh g 1 (Int32.ofNat X)) (fun o => o.2 = (if LD (bN β) (wN β) (wG β) (wMo β) (bN β) X = 100000000 then -1 else Int32.ofNat (LD (bN β) (wN β) (wG β) (wMo β) (bN β) X)) ∧ ∀ i, i < bN β → o.1.1 65 i = Int32.ofNat (gA (bN β) (wN β) (wG β) (wMo β) i (gR (bN β) (wN β) (wG β) (wMo β) X i))) := by
  have hn := hw.1
  obtain ⟨g1, e1, v1⟩ := lW (sh := sh) hw hc
  have F1 := w_X6_loadWares e1
  have hc1 : cvB sh g1 1 β := cvB_fr hc fun c k q => F1 c k (by omega)
  unfold f_X6_cheapest
  refine gb_T.bs e1 ?_
  have e : f_J9_min_7cf53 sh g1 8 (g1.1 1 0) = some (g1, Int32.ofNat (bN β)) := by
    unfold f_J9_min_7cf53
    rw [hc1.1]
    by_cases q : bN β < 8
    · rw [if_pos (by rw [show (8 : Int32) = Int32.ofNat 8 from rfl, o_lt (by omega) (by omega)]; exact q)]
    · rw [if_neg (by rw [show (8 : Int32) = Int32.ofNat 8 from rfl, o_lt (by omega) (by omega)]; exact q), show bN β = 8 by omega]; rfl
  rw [e, gb_bd_s]
  simp only []
  rw [near_t (x := Int32.ofNat X) (lo := 0) (hi := 99) (by rw [im, o_int (by omega)]; omega) rfl rfl, gb_bd_s]
  exact ch_27 (wfG_of hw) hX (X + 1) 0 gb_N g1 (by omega) (by unfold gb_N; omega) v1 (fun v hv => by omega)
