/-! ===== what code tells: two values joined ===== -/
abbrev Den : Type := (Nat → Int32) → Option Int32
def bdv (z : Int) : Option Int32 := if -1000000000 ≤ z ∧ z ≤ 1000000000 then some (Int32.ofInt z) else none
def jz (op : Nat) (x y : Int) : Int := match op with
  | 0 => x + y
  | 1 => x - y
  | 2 => x * y
  | 3 => x.tdiv y
  | 4 => x.tmod y
  | 5 => if x < y then 1 else 0
  | 6 => if y < x then 1 else 0
  | _ => if x = y then 1 else 0
def jn (op : Nat) (x y : Int32) : Option Int32 := if (op = 3 ∨ op = 4) ∧ y = 0 then none else bdv (jz op x.toInt y.toInt)
abbrev im9 (x : Int32) : Prop := im (-1000000000) 1000000000 x
theorem ofI {z : Int} (h1 : -1000000000 ≤ z) (h2 : z ≤ 1000000000) : (Int32.ofInt z).toInt = z := by
  exact Int32.toInt_ofInt_of_le (by omega) (by omega)
theorem bdv_b {z : Int} {v : Int32} (h : bdv z = some v) : im9 v ∧ v.toInt = z := by
  unfold bdv at h
  split at h
  · next q => cases h; rw [im9, im, ofI q.1 q.2]; exact ⟨q, rfl⟩
  · cases h
theorem jn_b {op : Nat} {x y v : Int32} (h : jn op x y = some v) : im9 v := by
  unfold jn at h
  split at h
  · cases h
  · exact (bdv_b h).1
theorem jn_01 {op : Nat} {x y v : Int32} (ho : 5 ≤ op) (h : jn op x y = some v) : v = 0 ∨ v = 1 := by
  unfold jn at h
  rw [if_neg (by omega)] at h
  have e := (bdv_b h).2
  have z : jz op x.toInt y.toInt = 0 ∨ jz op x.toInt y.toInt = 1 := by
    unfold jz
    split <;> first | omega | (split <;> simp)
  rcases z with z | z
  · left; exact Int32.toInt_inj.1 (by rw [e, z]; rfl)
  · right; exact Int32.toInt_inj.1 (by rw [e, z]; rfl)
theorem tdiv_b (x y : Int) : (x.tdiv y).natAbs ≤ x.natAbs := by rw [Int.natAbs_tdiv]; exact Nat.div_le_self _ _
theorem tmod_b (x y : Int) : (x.tmod y).natAbs ≤ x.natAbs := by rw [Int.natAbs_tmod]; exact Nat.mod_le _ _
theorem mul_b {x y : Int} (h1 : x.natAbs ≤ 1000000000) (h2 : y.natAbs ≤ 1000000000) : (x * y).natAbs ≤ 1000000000000000000 := by
  rw [Int.natAbs_mul]
  exact Nat.le_trans (Nat.mul_le_mul h1 h2) (by omega)
theorem na {x : Int32} (h : im9 x) : x.toInt.natAbs ≤ 1000000000 := by rw [im9, im] at h; omega
theorem i_div {x y : Int32} (h : im9 x) : (x / y).toInt = x.toInt.tdiv y.toInt := by
  have a := tdiv_b x.toInt y.toInt
  have b := na h
  rw [Int32.toInt_div]
  exact Int.bmod_eq_of_le (by omega) (by omega)
theorem i_rem {x y : Int32} (h : im9 x) : (gb_rem x y).toInt = x.toInt.tmod y.toInt := by
  have a := tmod_b x.toInt y.toInt
  have b := na h
  have e := Int.tmod_def x.toInt y.toInt
  have e2 : (x / y * y).toInt = x.toInt.tdiv y.toInt * y.toInt := by
    rw [i_mul, i_div h]
    · rw [i_div h, Int.mul_comm]; omega
    · rw [i_div h, Int.mul_comm]; omega
  unfold gb_rem
  rw [i_sub, e2, Int.mul_comm]
  · omega
  · rw [e2, Int.mul_comm]; omega
  · rw [e2, Int.mul_comm]; omega
theorem j_div {x y : Int64} (h : x.toInt.natAbs ≤ 1000000000) : (x / y).toInt = x.toInt.tdiv y.toInt := by
  have a := tdiv_b x.toInt y.toInt
  rw [Int64.toInt_div]
  exact Int.bmod_eq_of_le (by omega) (by omega)
theorem j_rem {x y : Int64} (h : x.toInt.natAbs ≤ 1000000000) : (gb_reml x y).toInt = x.toInt.tmod y.toInt := by
  have a := tmod_b x.toInt y.toInt
  have e := Int.tmod_def x.toInt y.toInt
  have e2 : (x / y * y).toInt = x.toInt.tdiv y.toInt * y.toInt := by
    rw [j_mul, j_div h]
    · rw [j_div h, Int.mul_comm]; omega
    · rw [j_div h, Int.mul_comm]; omega
  unfold gb_reml
  rw [j_sub, e2, Int.mul_comm]
  · omega
  · rw [e2, Int.mul_comm]; omega
  · rw [e2, Int.mul_comm]; omega
theorem j146 {sh : List gb_Sh} {g : gb_G} {y : Int64} {z : Int} (h : y.toInt = z) : f_X5_join_146 sh g y = some (g, ms_br (bdv z)) := by
  unfold f_X5_join_146 f_X5_join_162 bdv
  by_cases q : 0 < lg_cmp y 1000000000
  · rw [if_pos q]
    rw [lg_cmp_gt, Int64.lt_iff_toInt_lt, h, show (1000000000 : Int64).toInt = 1000000000 from rfl] at q
    rw [if_neg (by omega)]; rfl
  · rw [if_neg q]
    rw [lg_cmp_gt, Int64.lt_iff_toInt_lt, h, show (1000000000 : Int64).toInt = 1000000000 from rfl] at q
    by_cases q2 : 0 ≤ lg_cmp y (-1000000000)
    · rw [if_pos q2]
      rw [lg_cmp_ge, Int64.le_iff_toInt_le, h, show (-1000000000 : Int64).toInt = -1000000000 from rfl] at q2
      rw [if_pos ⟨q2, by omega⟩]
      have : y.toInt32 = Int32.ofInt z := by
        apply Int32.toInt_inj.1
        rw [Int64.toInt_toInt32, h, Int32.toInt_ofInt]
      rw [this]; rfl
    · rw [if_neg q2]
      rw [lg_cmp_ge, Int64.le_iff_toInt_le, h, show (-1000000000 : Int64).toInt = -1000000000 from rfl] at q2
      rw [if_neg (by omega)]; rfl
/-- join() -/
theorem jn_c {sh : List gb_Sh} {g : gb_G} {op : Nat} {x y : Int32} (ho : op < 8) (hx : im9 x) (hy : im9 y) : f_X5_join sh g (Int32.ofNat (5 + op)) x y = some (g, ms_br (jn op x y)) := by
  have bx := na hx
  have by' := na hy
  have m19 : ¬ ((op = 3 ∨ op = 4) ∧ y = 0) → f_X5_join_19 sh g (Int32.ofNat (5 + op)) x y = some (g, ms_br (bdv (jz op x.toInt y.toInt))) := by
    intro hz
    unfold f_X5_join_19 f_X5_join_117 f_X5_join_131 f_X5_join_145
    have hc : op = 0 ∨ op = 1 ∨ op = 2 ∨ op = 3 ∨ op = 4 ∨ op = 5 ∨ op = 6 ∨ op = 7 := by omega
    rcases hc with rfl | rfl | rfl | rfl | rfl | rfl | rfl | rfl
    · rw [if_pos (show Int32.ofNat (5 + 0) = 5 from rfl)]
      exact j146 (by rw [j_add (by rw [j_of, j_of]; omega) (by rw [j_of, j_of]; omega), j_of, j_of]; rfl)
    · rw [if_neg (show ¬ Int32.ofNat (5 + 1) = 5 by decide), if_pos (show Int32.ofNat (5 + 1) = 6 from rfl)]
      exact j146 (by rw [j_sub (by rw [j_of, j_of]; omega) (by rw [j_of, j_of]; omega), j_of, j_of]; rfl)
    · have := mul_b bx by'
      rw [if_neg (show ¬ Int32.ofNat (5 + 2) = 5 by decide), if_neg (show ¬ Int32.ofNat (5 + 2) = 6 by decide), if_pos (show Int32.ofNat (5 + 2) = 7 from rfl)]
      exact j146 (by rw [j_mul (by rw [j_of, j_of]; omega) (by rw [j_of, j_of]; omega), j_of, j_of]; rfl)
    · rw [if_neg (show ¬ Int32.ofNat (5 + 3) = 5 by decide), if_neg (show ¬ Int32.ofNat (5 + 3) = 6 by decide), if_neg (show ¬ Int32.ofNat (5 + 3) = 7 by decide), if_pos (show Int32.ofNat (5 + 3) = 8 from rfl), gb_nz_s (fun z => hz ⟨Or.inl rfl, z⟩)]
      exact j146 (by rw [j_of, i_div hx]; rfl)
    · rw [if_neg (show ¬ Int32.ofNat (5 + 4) = 5 by decide), if_neg (show ¬ Int32.ofNat (5 + 4) = 6 by decide), if_neg (show ¬ Int32.ofNat (5 + 4) = 7 by decide), if_neg (show ¬ Int32.ofNat (5 + 4) = 8 by decide), if_pos (show Int32.ofNat (5 + 4) = 9 from rfl), gb_nz_s (fun z => hz ⟨Or.inr rfl, z⟩)]
      exact j146 (by rw [j_of, i_rem hx]; rfl)
    · rw [if_neg (show ¬ Int32.ofNat (5 + 5) = 5 by decide), if_neg (show ¬ Int32.ofNat (5 + 5) = 6 by decide), if_neg (show ¬ Int32.ofNat (5 + 5) = 7 by decide), if_neg (show ¬ Int32.ofNat (5 + 5) = 8 by decide), if_neg (show ¬ Int32.ofNat (5 + 5) = 9 by decide), if_pos (show Int32.ofNat (5 + 5) = 10 from rfl)]
      show _ = some (g, ms_br (bdv (if x.toInt < y.toInt then 1 else 0)))
      by_cases q : y ≤ x
      · rw [if_pos q]
        rw [Int32.le_iff_toInt_le] at q
        rw [if_neg (by omega)]
        exact j146 rfl
      · rw [if_neg q]
        rw [Int32.le_iff_toInt_le] at q
        rw [if_pos (by omega)]
        exact j146 rfl
    · rw [if_neg (show ¬ Int32.ofNat (5 + 6) = 5 by decide), if_neg (show ¬ Int32.ofNat (5 + 6) = 6 by decide), if_neg (show ¬ Int32.ofNat (5 + 6) = 7 by decide), if_neg (show ¬ Int32.ofNat (5 + 6) = 8 by decide), if_neg (show ¬ Int32.ofNat (5 + 6) = 9 by decide), if_neg (show ¬ Int32.ofNat (5 + 6) = 10 by decide), if_pos (show Int32.ofNat (5 + 6) = 11 from rfl)]
      show _ = some (g, ms_br (bdv (if y.toInt < x.toInt then 1 else 0)))
      by_cases q : x ≤ y
      · rw [if_pos q]
        rw [Int32.le_iff_toInt_le] at q
        rw [if_neg (by omega)]
        exact j146 rfl
      · rw [if_neg q]
        rw [Int32.le_iff_toInt_le] at q
        rw [if_pos (by omega)]
        exact j146 rfl
    · rw [if_neg (show ¬ Int32.ofNat (5 + 7) = 5 by decide), if_neg (show ¬ Int32.ofNat (5 + 7) = 6 by decide), if_neg (show ¬ Int32.ofNat (5 + 7) = 7 by decide), if_neg (show ¬ Int32.ofNat (5 + 7) = 8 by decide), if_neg (show ¬ Int32.ofNat (5 + 7) = 9 by decide), if_neg (show ¬ Int32.ofNat (5 + 7) = 10 by decide), if_neg (show ¬ Int32.ofNat (5 + 7) = 11 by decide)]
      show _ = some (g, ms_br (bdv (if x.toInt = y.toInt then 1 else 0)))
      by_cases q : x = y
      · rw [if_pos q, if_pos (by rw [q])]
        exact j146 rfl
      · rw [if_neg q, if_neg (fun z => q (Int32.toInt_inj.1 z))]
        exact j146 rfl
  unfold f_X5_join f_X5_join_16 jn
  by_cases q : y = 0
  · rw [if_pos q]
    by_cases q3 : op = 3
    · rw [if_pos (show Int32.ofNat (5 + op) = 8 by rw [q3]; rfl), if_pos ⟨Or.inl q3, q⟩]; rfl
    · rw [if_neg (show ¬ Int32.ofNat (5 + op) = 8 from fun z => by have := o_inj (j := 8) (by omega) (by omega) z; omega)]
      by_cases q4 : op = 4
      · rw [if_pos (show Int32.ofNat (5 + op) = 9 by rw [q4]; rfl), if_pos ⟨Or.inr q4, q⟩]; rfl
      · rw [if_neg (show ¬ Int32.ofNat (5 + op) = 9 from fun z => by have := o_inj (j := 9) (by omega) (by omega) z; omega), if_neg (fun z => by have := z.1; omega)]
        exact m19 (fun z => by have := z.1; omega)
  · rw [if_neg q, if_neg (fun z => q z.2)]
    exact m19 (fun z => q z.2)
