/-! ===== a piece of code is run, on both sides ===== -/
theorem run_t {sh : List gb_Sh} {g : gb_G} {b a4 nw c p m a e z k : Nat} {D : Den} (hl : gb_ln sh (b + 5) = 3 * m + 1) (hc : c < m) (hm : m ≤ 12) (hp : p ≤ 2) (h1 : g.1 (b + 5) (c * 3 + p) = Int32.ofNat a) (h2 : g.1 (b + 5) (c * 3 + p + 1) = Int32.ofNat e) (h0 : g.1 b 0 = Int32.ofNat z) (hae : a < e) (hez : e ≤ z) (hz : z ≤ 400) (l1 : z ≤ gb_ln sh (b + 1)) (l2 : z ≤ gb_ln sh (b + 2)) (l1' : gb_ln sh (b + 1) ≤ 400) (l2' : gb_ln sh (b + 2) ≤ 400) (n1 : ¬ b + 1 = 53) (n2 : ¬ b + 2 = 53) (n4 : ¬ a4 = 53) (hk : k ≤ 51) (hw : okn nw (g.1 a4)) (hX : XC (g.1 (b + 1)) (g.1 (b + 2)) nw a e k D) : ∃ g'', f_X5_run sh g b (Int32.ofNat c) (Int32.ofNat p) a4 nw = some (g'', ms_br (D (g.1 a4))) := by
  have e0 : f_X5_run sh g b (Int32.ofNat c) (Int32.ofNat p) a4 nw = f_X5_run_75 sh b a4 nw gb_N g (Int32.ofNat a) (Int32.ofNat e) (Int32.ofNat 0) (Int32.ofNat a) := by
    unfold f_X5_run
    rw [show (3 : Int32) = Int32.ofNat 3 from rfl, o_mul, o_add, if_neg (by rw [show (0 : Int32) = Int32.ofNat 0 from rfl, o_lt (by omega) (by omega)]; omega), o_succ, hl, if_pos (by rw [o_lt (by omega) (by omega)]; omega), gb_ck_s (o_in (by omega) (by omega)), gb_ck_s (o_in (by omega) (by omega)), o_cl (by omega), o_cl (by omega), h1, h2, h0, min_c (by omega) (by omega), gb_bd_s, Nat.min_eq_right hez]
    simp only []
    rw [if_neg (by rw [show (0 : Int32) = Int32.ofNat 0 from rfl, o_lt (by omega) (by omega)]; omega), if_pos (by rw [o_lt (by omega) (by omega)]; exact hae)]
    rfl
  obtain ⟨x1, x2⟩ := hX sh b a4 g 0 gb_N a e (fun i _ _ => ⟨rfl, rfl⟩) (by omega) (by omega) (Nat.le_refl _) (by omega) n1 n2 n4 (by omega) (by omega) (by omega) (Nat.le_refl _) (by rw [show gb_N = 1000000 from rfl]; omega) hw
  rw [e0]
  cases hD : D (g.1 a4) with
  | none =>
    obtain ⟨g', q⟩ := x1 hD
    exact ⟨g', q⟩
  | some v =>
    obtain ⟨g', F', u', q1, q2, q3, q4, q5⟩ := x2 v hD
    obtain ⟨f, rfl⟩ : ∃ f, F' = f + 1 := ⟨F' - 1, by omega⟩
    refine ⟨g', ?_⟩
    rw [q5, f_X5_run_75]
    have k : f_X5_run_324 sh b a4 nw g' (Int32.ofNat (0 + 1)) = some (g', ms_br (some v)) := by
      unfold f_X5_run_324
      rw [if_pos (by decide), q4]; rfl
    split
    · exact k
    · rw [if_pos (by rw [o_le (by omega) (by omega)]; omega)]; exact k
/-- where there is nothing of it -/
theorem run_0 {sh : List gb_Sh} {g : gb_G} {b a4 nw c p m a z : Nat} (hl : gb_ln sh (b + 5) = 3 * m + 1) (hc : c < m) (hm : m ≤ 12) (hp : p ≤ 2) (h1 : g.1 (b + 5) (c * 3 + p) = Int32.ofNat a) (h2 : g.1 (b + 5) (c * 3 + p + 1) = Int32.ofNat a) (h0 : g.1 b 0 = Int32.ofNat z) (hez : a ≤ z) (hz : z ≤ 400) : f_X5_run sh g b (Int32.ofNat c) (Int32.ofNat p) a4 nw = some (g, 1) := by
  unfold f_X5_run
  rw [show (3 : Int32) = Int32.ofNat 3 from rfl, o_mul, o_add, if_neg (by rw [show (0 : Int32) = Int32.ofNat 0 from rfl, o_lt (by omega) (by omega)]; omega), o_succ, hl, if_pos (by rw [o_lt (by omega) (by omega)]; omega), gb_ck_s (o_in (by omega) (by omega)), gb_ck_s (o_in (by omega) (by omega)), o_cl (by omega), o_cl (by omega), h1, h2, h0, min_c (by omega) (by omega), gb_bd_s, Nat.min_eq_right hez]
  simp only []
  rw [if_neg (by rw [show (0 : Int32) = Int32.ofNat 0 from rfl, o_lt (by omega) (by omega)]; omega), if_neg (by rw [o_lt (by omega) (by omega)]; omega)]
/-- the reference's -/
theorem rka {sh : List gb_Sh} {g : gb_G} {ord : Bool} {O A w : Nat → Int32} {nw a e k : Nat} {D : Den} (hC : RC ord g O A a e) (hW : RW ord g w) (hw : okn nw w) (he : e ≤ 400) (hk : k ≤ 400) (hX : XR ord O A nw a e k D) : ∃ g', f_X11_reckonAll sh g (Int32.ofNat a) (Int32.ofNat e) = some g' ∧ (D w = none → g'.1 77 38 = 1) ∧ ∀ v, D w = some v → g'.1 77 38 = 0 ∧ g'.2.1 77 39 = v.toInt64 := by
  have fr : frR g (gb_pi g 77 38 0) 0 := frR.pi
  obtain ⟨x1, x2⟩ := hX sh (gb_pi g 77 38 0) 0 gb_N e w (RC_fr hC fr) (RW_fr hW fr) hw (by omega) (Nat.le_refl _) he (by rw [show gb_N = 1000000 from rfl]; omega) pi_e
  unfold f_X11_reckonAll
  rw [gb_let_s]
  cases hD : D w with
  | none =>
    obtain ⟨g', q1, q2⟩ := x1 hD
    exact ⟨g', q1, fun _ => q2, fun v z => (nomatch z)⟩
  | some v =>
    obtain ⟨g', F', q1, q2, q3, q4, q5⟩ := x2 v hD
    obtain ⟨f, rfl⟩ : ∃ f, F' = f + 1 := ⟨F' - 1, by omega⟩
    refine ⟨gb_pj g' 77 39 v.toInt64, ?_, fun z => (nomatch z), fun v' z => ?_⟩
    · refine q5.trans ?_
      rw [f_X11_reckonAll_10, if_pos (by rw [o_le (by omega) (by omega)]; omega)]
      unfold f_X11_reckonAll_353 f_X11_reckonAll_368
      rw [if_neg (by decide), q3, gb_let_s]
    · cases z
      exact ⟨q4, pj_e⟩
