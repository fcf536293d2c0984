/-! ===== the class' Program: clauses ===== -/
theorem endP_c {sh : List gb_Sh} {g : gb_G} {m p : Nat} (hl : gb_ln sh 51 = 37) (hm : g.1 46 3 = Int32.ofNat m) (hm12 : m < 12) (hp : p ≤ 2) : f_X7_endPiece sh g 46 (Int32.ofNat p) = some (gb_pi g 51 (m * 3 + p + 1) (g.1 46 0)) := by
  unfold f_X7_endPiece
  rw [show (46 : Nat) + 5 = 51 from rfl, hl, hm, show (3 : Int32) = Int32.ofNat 3 from rfl, o_mul, o_add, o_succ, within_t (lo := 0) (hi := 36) (by rw [im, o_int (by omega)]; omega) rfl rfl, bt]
  simp only []
  rw [gb_ck_s (o_in (by omega) (by omega)), o_cl (by omega), gb_let_s]
theorem begC_c {sh : List gb_Sh} {g : gb_G} {m : Nat} {x : Int32} (hl1 : gb_ln sh 49 = 12) (hl2 : gb_ln sh 50 = 12) (hm : g.1 46 3 = Int32.ofNat m) (hm12 : m < 12) : f_X7_beginClause sh g 46 x = some (gb_pi (gb_pi g 49 m x) 50 m 1) := by
  unfold f_X7_beginClause
  rw [show (46 : Nat) + 3 = 49 from rfl, show (46 : Nat) + 4 = 50 from rfl, hl1, hl2, hm, if_neg (by rw [show (12 : Int32) = Int32.ofNat 12 from rfl, o_le (by omega) (by omega)]; omega), gb_ck_s (o_in (by omega) (by omega)), o_cl (by omega), gb_let_s, show (gb_pi g 49 m x).1 46 3 = Int32.ofNat m from (pi_n (by omega)).trans hm, gb_ck_s (o_in (by omega) (by omega)), o_cl (by omega), gb_let_s]
theorem ln_S {sh : List gb_Sh} (hS : gb_S sh) : gb_ln sh 47 = 400 ∧ gb_ln sh 48 = 400 ∧ gb_ln sh 49 = 12 ∧ gb_ln sh 50 = 12 ∧ gb_ln sh 51 = 37 := by
  refine ⟨?_, ?_, ?_, ?_, ?_⟩
  · unfold gb_ln; rw [hS 47 _ rfl]
  · unfold gb_ln; rw [hS 48 _ rfl]
  · unfold gb_ln; rw [hS 49 _ rfl]
  · unfold gb_ln; rw [hS 50 _ rfl]
  · unfold gb_ln; rw [hS 51 _ rfl]
