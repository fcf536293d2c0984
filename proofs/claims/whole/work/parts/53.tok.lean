/-! ===== the readers: TOKENS ===== -/
def ky (x : Int32) : Nat := if 97 ≤ x ∧ x ≤ 122 then 1 else if 48 ≤ x ∧ x ≤ 57 then 2 else 0
theorem ky_1 {x : Int32} (h : ¬ (97 ≤ x ∧ x ≤ 122)) : ky x = if 48 ≤ x ∧ x ≤ 57 then 2 else 0 := by rw [ky, if_neg h]
theorem ky_14 {sh : List gb_Sh} {g : gb_G} (x : Int32) : f_X9_kindOf_14 sh g x = some (g, Int32.ofNat (if 48 ≤ x ∧ x ≤ 57 then 2 else 0)) := by
  unfold f_X9_kindOf_14
  by_cases h2 : x < 48
  · rw [if_pos h2, if_neg (fun q : 48 ≤ x ∧ x ≤ 57 => Int32.not_lt.2 q.1 h2)]; rfl
  · rw [if_neg h2]
    by_cases h3 : 57 < x
    · rw [if_pos h3, if_neg (fun q : 48 ≤ x ∧ x ≤ 57 => Int32.not_lt.2 q.2 h3)]; rfl
    · rw [if_neg h3, if_pos (show 48 ≤ x ∧ x ≤ 57 from ⟨Int32.not_lt.1 h2, Int32.not_lt.1 h3⟩)]; rfl
theorem ky_c {sh : List gb_Sh} {g : gb_G} (x : Int32) : f_X9_kindOf sh g x = some (g, Int32.ofNat (ky x)) := by
  unfold f_X9_kindOf
  by_cases h1 : x < 97
  · rw [if_pos h1, ky_1 (fun q => Int32.not_lt.2 q.1 h1), ky_14]
  · rw [if_neg h1]
    by_cases h2 : 122 < x
    · rw [if_pos h2, ky_1 (fun q => Int32.not_lt.2 q.2 h2), ky_14]
    · rw [if_neg h2, ky, if_pos (show 97 ≤ x ∧ x ≤ 122 from ⟨Int32.not_lt.1 h1, Int32.not_lt.1 h2⟩)]; rfl
theorem ky_2 (x : Int32) : ky x ≤ 2 := by
  unfold ky
  split
  · omega
  · split <;> omega
theorem ky_s {sh : List gb_Sh} {g : gb_G} (x : Int32) : f_X11_isSmall sh g x = some (g, if ky x = 1 then 1 else 0) := by
  unfold f_X11_isSmall
  by_cases h1 : x < 97
  · rw [if_pos h1, if_neg]
    unfold ky
    rw [if_neg (fun q => Int32.not_lt.2 q.1 h1)]
    split <;> omega
  · rw [if_neg h1]
    by_cases h2 : 122 < x
    · rw [if_pos h2, if_neg]
      unfold ky
      rw [if_neg (fun q => Int32.not_lt.2 q.2 h2)]
      split <;> omega
    · rw [if_neg h2, if_pos]
      unfold ky
      rw [if_pos ⟨Int32.not_lt.1 h1, Int32.not_lt.1 h2⟩]
theorem ky_d {sh : List gb_Sh} {g : gb_G} (x : Int32) : f_X11_isDigit sh g x = some (g, if ky x = 2 then 1 else 0) := by
  unfold f_X11_isDigit
  have no1 : ∀ {q : Prop}, ¬ (48 ≤ x ∧ x ≤ 57) → ¬ ky x = 2 := by
    intro _ h z
    unfold ky at z
    rw [if_neg h] at z
    split at z <;> omega
  by_cases h1 : x < 48
  · rw [if_pos h1, if_neg (no1 (q := True) fun q => Int32.not_lt.2 q.1 h1)]
  · rw [if_neg h1]
    by_cases h2 : 57 < x
    · rw [if_pos h2, if_neg (no1 (q := True) fun q => Int32.not_lt.2 q.2 h2)]
    · rw [if_neg h2, if_pos]
      have a := Int32.not_lt.1 h2
      unfold ky
      rw [if_neg (fun q => absurd (Int32.le_trans q.1 a) (by decide)), if_pos ⟨Int32.not_lt.1 h1, a⟩]
def skp (n : Nat) (B : Nat → Int32) : Nat → Nat → Nat
  | 0, s => s
  | f + 1, s => if s < n ∧ B s = 32 then skp n B f (s + 1) else s
def rnn (n : Nat) (B : Nat → Int32) (k : Nat) : Nat → Nat → Nat
  | 0, s => s
  | f + 1, s => if s < n ∧ ky (B s) = k then rnn n B k f (s + 1) else s
def stp (n : Nat) (B : Nat → Int32) (t : Nat) : Nat := if t < n then (if ky (B t) = 0 then t + 1 else rnn n B (ky (B t)) 400 (t + 1)) else n
def kd (n : Nat) (B : Nat → Int32) (t : Nat) : Nat := if t < n then ky (B t) else 0
/-- the next TOKEN -/
def tn (n : Nat) (B : Nat → Int32) (t : Nat) : Nat := skp n B 400 (stp n B t)
theorem skp_b {n : Nat} {B : Nat → Int32} : ∀ f s, s ≤ n → s ≤ skp n B f s ∧ skp n B f s ≤ n := by
  intro f
  induction f with
  | zero => intro s h; exact ⟨Nat.le_refl _, h⟩
  | succ f ih =>
    intro s h
    rw [skp]
    split
    · next q => have := ih (s + 1) (by omega); omega
    · omega
theorem rnn_b {n k : Nat} {B : Nat → Int32} : ∀ f s, s ≤ n → s ≤ rnn n B k f s ∧ rnn n B k f s ≤ n := by
  intro f
  induction f with
  | zero => intro s h; exact ⟨Nat.le_refl _, h⟩
  | succ f ih =>
    intro s h
    rw [rnn]
    split
    · next q => have := ih (s + 1) (by omega); omega
    · omega
theorem stp_b {n t : Nat} {B : Nat → Int32} (h : t ≤ n) : t ≤ stp n B t ∧ stp n B t ≤ n ∧ (t < n → t < stp n B t) := by
  unfold stp
  split
  · next q =>
    split
    · omega
    · have := rnn_b (B := B) (k := ky (B t)) 400 (t + 1) (show t + 1 ≤ n by omega); omega
  · omega
theorem tn_b {n t : Nat} {B : Nat → Int32} (h : t ≤ n) : t ≤ tn n B t ∧ tn n B t ≤ n ∧ (t < n → t < tn n B t) := by
  have h1 := stp_b (B := B) h
  have h2 := skp_b (B := B) 400 (stp n B t) h1.2.1
  unfold tn; omega
/-- the class' tape stands at a TOKEN -/
def cS (g : gb_G) (n : Nat) (B : Nat → Int32) (t : Nat) : Prop := cvTp g n B ∧ t ≤ n ∧ g.1 43 2 = Int32.ofNat t ∧ g.1 43 3 = Int32.ofNat (stp n B t) ∧ g.1 43 4 = Int32.ofNat (kd n B t)
theorem st77 {sh : List gb_Sh} {n k : Nat} {B : Nat → Int32} (hn : n ≤ 400) (hk : 0 < k) (hk2 : k ≤ 2) : ∀ f s g F, n ≤ s + f → cvTp g n B → g.1 43 4 = Int32.ofNat k → g.1 43 3 = Int32.ofNat s → s ≤ n → gb_T (f_X9_step_77 sh (F + f + 1) g) (fun o => cvTp o n B ∧ o.1 43 2 = g.1 43 2 ∧ o.1 43 4 = Int32.ofNat k ∧ o.1 43 3 = Int32.ofNat (rnn n B k f s)) := by
  intro f
  induction f with
  | zero =>
    intro s g F hf hT h4 h3 hs
    rw [f_X9_step_77, h4, if_neg (fun z => by have := o_inj (j := 0) (by omega) (by omega) z; omega), hT.1, h3, if_pos (by rw [o_le (by omega) (by omega)]; omega)]
    exact ⟨g, rfl, hT, rfl, h4, h3⟩
  | succ f ih =>
    intro s g F hf hT h4 h3 hs
    rw [f_X9_step_77, h4, if_neg (fun z => by have := o_inj (j := 0) (by omega) (by omega) z; omega), hT.1, h3]
    by_cases q : s < n
    · rw [if_neg (by rw [o_le (by omega) (by omega)]; omega), bA_t hn hT q, gb_bd_s, ky_c, gb_bd_s]
      simp only []
      rw [h4]
      by_cases q2 : ky (B s) = k
      · rw [q2, if_pos rfl, gb_let_s, h3, o_succ]
        obtain ⟨o, e, a, b, c, d⟩ := ih (s + 1) (gb_pi g 43 3 (Int32.ofNat (s + 1))) F (by omega) ⟨(pi_n (by omega)).trans hT.1, fun j hj => (pi_n (by omega)).trans (hT.2 j hj)⟩ ((pi_n (by omega)).trans h4) pi_e (by omega)
        refine ⟨o, e, a, b.trans (pi_n (by omega)), c, ?_⟩
        rw [d, rnn, if_pos ⟨q, q2⟩]
      · have := ky_2 (B s)
        rw [if_neg (fun z => q2 (o_inj (by omega) (by omega) z))]
        refine ⟨g, rfl, hT, rfl, h4, ?_⟩
        rw [rnn, if_neg (fun z => q2 z.2)]; exact h3
    · rw [if_pos (by rw [o_le (by omega) (by omega)]; omega)]
      refine ⟨g, rfl, hT, rfl, h4, ?_⟩
      rw [rnn, if_neg (fun z => q z.1)]; exact h3
theorem min_c {sh : List gb_Sh} {g : gb_G} {a b : Nat} (ha : a < 2147483648) (hb : b < 2147483648) : f_J9_min_7cf53 sh g (Int32.ofNat a) (Int32.ofNat b) = some (g, Int32.ofNat (min a b)) := by
  unfold f_J9_min_7cf53
  by_cases q : Int32.ofNat b < Int32.ofNat a
  · rw [if_pos q]
    rw [o_lt (by omega) (by omega)] at q
    rw [Nat.min_eq_right (by omega)]
  · rw [if_neg q]
    rw [o_lt (by omega) (by omega)] at q
    rw [Nat.min_eq_left (by omega)]
theorem st45 {sh : List gb_Sh} {n t : Nat} {B : Nat → Int32} {g : gb_G} (hn : n ≤ 400) (hT : cvTp g n B) (h2 : g.1 43 2 = Int32.ofNat t) (ht : t ≤ n) : gb_T (f_X9_step_45 sh g) (fun o => cS o n B t) := by
  unfold f_X9_step_45
  by_cases q : t < n
  · have hk := ky_2 (B t)
    rw [h2, bA_t hn hT q, gb_bd_s, ky_c, gb_bd_s, gb_let_s]
    simp only []
    have hT1 : cvTp (gb_pi g 43 4 (Int32.ofNat (ky (B t)))) n B := ⟨(pi_n (by omega)).trans hT.1, fun j hj => (pi_n (by omega)).trans (hT.2 j hj)⟩
    rw [hT1.1, show (gb_pi g 43 4 (Int32.ofNat (ky (B t)))).1 43 2 = Int32.ofNat t from (pi_n (by omega)).trans h2, o_succ, min_c (by omega) (by omega), gb_bd_s, gb_let_s, Nat.min_eq_right (by omega)]
    by_cases q2 : ky (B t) = 0
    · rw [show gb_N = 999999 + 1 from rfl, f_X9_step_77, show (gb_pi (gb_pi g 43 4 (Int32.ofNat (ky (B t)))) 43 3 (Int32.ofNat (t + 1))).1 43 4 = Int32.ofNat (ky (B t)) from (pi_n (by omega)).trans pi_e, q2, if_pos (show Int32.ofNat 0 = 0 from rfl)]
      refine ⟨_, rfl, ⟨(pi_n (by omega)).trans ((pi_n (by omega)).trans hT.1), fun j hj => (pi_n (by omega)).trans ((pi_n (by omega)).trans (hT.2 j hj))⟩, ht, (pi_n (by omega)).trans ((pi_n (by omega)).trans h2), pi_e.trans ?_, ((pi_n (by omega)).trans pi_e).trans ?_⟩
      · rw [stp, if_pos q, if_pos q2]
      · rw [kd, if_pos q, q2]
    · obtain ⟨o, e, a, b, c, d⟩ := st77 (sh := sh) hn (by omega) hk 400 (t + 1) (gb_pi (gb_pi g 43 4 (Int32.ofNat (ky (B t)))) 43 3 (Int32.ofNat (t + 1))) 999599 (by omega) ⟨(pi_n (by omega)).trans ((pi_n (by omega)).trans hT.1), fun j hj => (pi_n (by omega)).trans ((pi_n (by omega)).trans (hT.2 j hj))⟩ ((pi_n (by omega)).trans pi_e) pi_e (by omega)
      refine ⟨o, e, a, ht, b.trans ((pi_n (by omega)).trans ((pi_n (by omega)).trans h2)), d.trans ?_, c.trans ?_⟩
      · rw [stp, if_pos q, if_neg q2]
      · rw [kd, if_pos q]
  · have e : t = n := by omega
    subst e
    rw [h2, bA_f hn hT (by rw [im, o_int (by omega)]; omega), gb_bd_s, ky_c, gb_bd_s, gb_let_s]
    simp only []
    have hT1 : cvTp (gb_pi g 43 4 (Int32.ofNat (ky (-1)))) t B := ⟨(pi_n (by omega)).trans hT.1, fun j hj => (pi_n (by omega)).trans (hT.2 j hj)⟩
    rw [hT1.1, show (gb_pi g 43 4 (Int32.ofNat (ky (-1)))).1 43 2 = Int32.ofNat t from (pi_n (by omega)).trans h2, o_succ, min_c (by omega) (by omega), gb_bd_s, gb_let_s, Nat.min_eq_left (by omega)]
    have q2 : ky (-1) = 0 := by decide
    rw [show gb_N = 999999 + 1 from rfl, f_X9_step_77, show (gb_pi (gb_pi g 43 4 (Int32.ofNat (ky (-1)))) 43 3 (Int32.ofNat t)).1 43 4 = Int32.ofNat (ky (-1)) from (pi_n (by omega)).trans pi_e, q2, if_pos (show Int32.ofNat 0 = 0 from rfl)]
    refine ⟨_, rfl, ⟨(pi_n (by omega)).trans ((pi_n (by omega)).trans hT.1), fun j hj => (pi_n (by omega)).trans ((pi_n (by omega)).trans (hT.2 j hj))⟩, ht, (pi_n (by omega)).trans ((pi_n (by omega)).trans h2), pi_e.trans ?_, ((pi_n (by omega)).trans pi_e).trans ?_⟩
    · rw [stp, if_neg q]
    · rw [kd, if_neg q]
theorem st8 {sh : List gb_Sh} {n : Nat} {B : Nat → Int32} (hn : n ≤ 400) : ∀ f s g F, n ≤ s + f → cvTp g n B → g.1 43 2 = Int32.ofNat s → s ≤ n → gb_T (f_X9_step_8 sh (F + f + 1) g) (fun o => cS o n B (skp n B f s)) := by
  intro f
  induction f with
  | zero =>
    intro s g F hf hT h2 hs
    rw [f_X9_step_8, hT.1, h2, if_pos (by rw [o_le (by omega) (by omega)]; omega)]
    exact st45 hn hT h2 hs
  | succ f ih =>
    intro s g F hf hT h2 hs
    rw [f_X9_step_8, hT.1, h2]
    by_cases q : s < n
    · rw [if_neg (by rw [o_le (by omega) (by omega)]; omega), bA_t hn hT q, gb_bd_s]
      simp only []
      by_cases q2 : B s = 32
      · rw [if_pos q2, gb_let_s, h2, o_succ, skp, if_pos ⟨q, q2⟩]
        exact ih (s + 1) (gb_pi g 43 2 (Int32.ofNat (s + 1))) F (by omega) ⟨(pi_n (by omega)).trans hT.1, fun j hj => (pi_n (by omega)).trans (hT.2 j hj)⟩ pi_e (by omega)
      · rw [if_neg q2, skp, if_neg (fun z => q2 z.2)]
        exact st45 hn hT h2 hs
    · rw [if_pos (by rw [o_le (by omega) (by omega)]; omega), skp, if_neg (fun z => q z.1)]
      exact st45 hn hT h2 hs
/-- step() -/
theorem step_c {sh : List gb_Sh} {n t : Nat} {B : Nat → Int32} {g : gb_G} (hn : n ≤ 400) (h : cS g n B t) : gb_T (f_X9_step sh g) (fun o => cS o n B (tn n B t)) := by
  obtain ⟨hT, ht, h2, h3, h4⟩ := h
  have hb := stp_b (B := B) ht
  unfold f_X9_step
  rw [gb_let_s, h3]
  exact st8 hn 400 (stp n B t) (gb_pi g 43 2 (Int32.ofNat (stp n B t))) 999599 (by omega) ⟨(pi_n (by omega)).trans hT.1, fun j hj => (pi_n (by omega)).trans (hT.2 j hj)⟩ pi_e hb.2.1
theorem rew_c {sh : List gb_Sh} {n : Nat} {B : Nat → Int32} {g : gb_G} (hn : n ≤ 400) (h : cvTp g n B) : gb_T (f_X9_rewind sh g) (fun o => cS o n B (skp n B 400 0)) := by
  unfold f_X9_rewind
  rw [gb_let_s]
  have hT : cvTp (gb_pi (gb_pi g 43 3 0) 43 2 (Int32.ofNat 0)) n B := ⟨(pi_n (by omega)).trans ((pi_n (by omega)).trans h.1), fun j hj => (pi_n (by omega)).trans ((pi_n (by omega)).trans (h.2 j hj))⟩
  obtain ⟨o, e, p⟩ := st8 (sh := sh) hn 400 0 (gb_pi (gb_pi g 43 3 0) 43 2 (Int32.ofNat 0)) 999599 (by omega) hT pi_e (by omega)
  have e2 : f_X9_step sh (gb_pi g 43 3 0) = some o := by
    unfold f_X9_step
    rw [gb_let_s, show (gb_pi g 43 3 0).1 43 3 = Int32.ofNat 0 from pi_e]
    exact e
  rw [e2, gb_bd_s]
  exact ⟨o, rfl, p⟩
