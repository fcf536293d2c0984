/-! ===== that a function answers, and what; small numbers ===== -/
def gb_T {β : Type} (a : Option β) (P : β → Prop) : Prop := ∃ x, a = some x ∧ P x
theorem gb_T.bd {α β : Type} {a : Option α} {f : α → Option β} {P : β → Prop} (h : gb_T a (fun x => gb_T (f x) P)) : gb_T (gb_bd a f) P := by
  obtain ⟨x, e, y, e2, p⟩ := h
  exact ⟨y, by rw [e]; exact e2, p⟩
theorem gb_T.bs {α β : Type} {a : Option α} {f : α → Option β} {P : β → Prop} {x : α} (e : a = some x) (h : gb_T (f x) P) : gb_T (gb_bd a f) P := by
  rw [e]; exact h
theorem gb_T.lt {α β : Type} {a : α} {f : α → Option β} {P : β → Prop} (h : gb_T (f a) P) : gb_T (gb_let a f) P := h
theorem gb_T.it {β : Type} {c : Prop} [Decidable c] {a b : Option β} {P : β → Prop} (h1 : c → gb_T a P) (h2 : ¬ c → gb_T b P) : gb_T (if c then a else b) P := by
  by_cases hc : c
  · rw [if_pos hc]; exact h1 hc
  · rw [if_neg hc]; exact h2 hc
theorem gb_T.ip {β : Type} {c : Prop} [Decidable c] {a b : Option β} {P : β → Prop} (hc : c) (h : gb_T a P) : gb_T (if c then a else b) P := by
  rw [if_pos hc]; exact h
theorem gb_T.iq {β : Type} {c : Prop} [Decidable c] {a b : Option β} {P : β → Prop} (hc : ¬ c) (h : gb_T b P) : gb_T (if c then a else b) P := by
  rw [if_neg hc]; exact h
theorem gb_ck_s {β : Type} {i : Int32} {n : Nat} {b : Option β} (hi : vp_in i n) : gb_ck i n b = b := if_pos hi
theorem gb_T.ck {β : Type} {i : Int32} {n : Nat} {b : Option β} {P : β → Prop} (hi : vp_in i n) (h : gb_T b P) : gb_T (gb_ck i n b) P := by
  rw [gb_ck_s hi]; exact h
theorem gb_nz_s {β : Type} {y : Int32} {b : Option β} (hi : ¬ y = 0) : gb_nz y b = b := if_neg hi
theorem gb_nzl_s {β : Type} {y : Int64} {b : Option β} (hi : ¬ y = 0) : gb_nzl y b = b := if_neg hi
theorem gb_bo_s {β : Type} {y : Int32} {b : Option β} (hi : y = 0 ∨ y = 1) : gb_bo y b = b := if_pos hi
theorem gb_bd_s {α β : Type} (x : α) (f : α → Option β) : gb_bd (some x) f = f x := rfl
theorem gb_let_s {α β : Type} (x : α) (f : α → β) : gb_let x f = f x := rfl
theorem gb_T.sm {β : Type} {x : β} {P : β → Prop} (h : P x) : gb_T (some x) P := ⟨x, rfl, h⟩
theorem gb_T.eq {β : Type} {a : Option β} {x : β} {P : β → Prop} (e : a = some x) (h : P x) : gb_T a P := ⟨x, e, h⟩
theorem gb_T.mo {β : Type} {a : Option β} {P Q : β → Prop} (h : gb_T a P) (k : ∀ x, a = some x → P x → Q x) : gb_T a Q := by
  obtain ⟨x, e, p⟩ := h
  exact ⟨x, e, k x e p⟩
/-- an Int32 between -/
def im (lo hi : Int) (x : Int32) : Prop := lo ≤ x.toInt ∧ x.toInt ≤ hi
theorem im_mo {a b c d : Int} {x : Int32} (h : im a b x) (h1 : c ≤ a) (h2 : b ≤ d) : im c d x := ⟨Int.le_trans h1 h.1, Int.le_trans h.2 h2⟩
theorem o_int {i : Nat} (h : i < 2147483648) : (Int32.ofNat i).toInt = i := Int32.toInt_ofNat_of_lt h
theorem o_cl {i : Nat} (h : i < 2147483648) : (Int32.ofNat i).toNatClampNeg = i := Int32.toNatClampNeg_ofNat_of_lt h
theorem o_of {n : Nat} {x : Int32} (h : im 0 ((n : Int) - 1) x) : ∃ i, i < n ∧ x = Int32.ofNat i := by
  have h1 := h.1
  have h2 := h.2
  have h3 := Int32.toInt_lt x
  refine ⟨x.toInt.toNat, by omega, Int32.toInt_inj.1 ?_⟩
  rw [o_int (by omega)]
  omega
theorem o_im {i : Nat} (n : Nat) (h : i < n) (hn : n < 2147483648) : im 0 ((n : Int) - 1) (Int32.ofNat i) := by
  rw [im, o_int (by omega)]; omega
theorem o_in {i n : Nat} (h : i < n) (hn : n < 2147483648) : vp_in (Int32.ofNat i) n := vp_in_nI h hn
theorem o_inj {i j : Nat} (hi : i < 2147483648) (hj : j < 2147483648) (h : Int32.ofNat i = Int32.ofNat j) : i = j := by
  have := congrArg Int32.toInt h
  rw [o_int hi, o_int hj] at this
  omega
theorem o_lt {i j : Nat} (hi : i < 2147483648) (hj : j < 2147483648) : Int32.ofNat i < Int32.ofNat j ↔ i < j := by
  rw [Int32.lt_iff_toInt_lt, o_int hi, o_int hj]; omega
theorem o_le {i j : Nat} (hi : i < 2147483648) (hj : j < 2147483648) : Int32.ofNat i ≤ Int32.ofNat j ↔ i ≤ j := by
  rw [Int32.le_iff_toInt_le, o_int hi, o_int hj]; omega
theorem o_add (i j : Nat) : Int32.ofNat i + Int32.ofNat j = Int32.ofNat (i + j) := (Int32.ofNat_add i j).symm
theorem o_mul (i j : Nat) : Int32.ofNat i * Int32.ofNat j = Int32.ofNat (i * j) := (Int32.ofNat_mul i j).symm
theorem o_succ (i : Nat) : Int32.ofNat i + 1 = Int32.ofNat (i + 1) := o_add i 1
theorem o_pred {i : Nat} : Int32.ofNat (i + 1) - 1 = Int32.ofNat i := by
  rw [← o_succ, Int32.add_sub_cancel]
theorem i_int (x : Int32) : -2147483648 ≤ x.toInt ∧ x.toInt < 2147483648 := ⟨Int32.le_toInt x, Int32.toInt_lt x⟩
theorem i_add {x y : Int32} (h1 : -2147483648 ≤ x.toInt + y.toInt) (h2 : x.toInt + y.toInt < 2147483648) : (x + y).toInt = x.toInt + y.toInt := by
  rw [Int32.toInt_add]
  exact Int.bmod_eq_of_le (by omega) (by omega)
theorem i_sub {x y : Int32} (h1 : -2147483648 ≤ x.toInt - y.toInt) (h2 : x.toInt - y.toInt < 2147483648) : (x - y).toInt = x.toInt - y.toInt := by
  rw [Int32.toInt_sub]
  exact Int.bmod_eq_of_le (by omega) (by omega)
theorem i_mul {x y : Int32} (h1 : -2147483648 ≤ x.toInt * y.toInt) (h2 : x.toInt * y.toInt < 2147483648) : (x * y).toInt = x.toInt * y.toInt := by
  rw [Int32.toInt_mul]
  exact Int.bmod_eq_of_le (by omega) (by omega)
theorem j_int (x : Int64) : -9223372036854775808 ≤ x.toInt ∧ x.toInt < 9223372036854775808 := ⟨Int64.le_toInt x, Int64.toInt_lt x⟩
theorem j_add {x y : Int64} (h1 : -9223372036854775808 ≤ x.toInt + y.toInt) (h2 : x.toInt + y.toInt < 9223372036854775808) : (x + y).toInt = x.toInt + y.toInt := by
  rw [Int64.toInt_add]
  exact Int.bmod_eq_of_le (by omega) (by omega)
theorem j_sub {x y : Int64} (h1 : -9223372036854775808 ≤ x.toInt - y.toInt) (h2 : x.toInt - y.toInt < 9223372036854775808) : (x - y).toInt = x.toInt - y.toInt := by
  rw [Int64.toInt_sub]
  exact Int.bmod_eq_of_le (by omega) (by omega)
theorem j_mul {x y : Int64} (h1 : -9223372036854775808 ≤ x.toInt * y.toInt) (h2 : x.toInt * y.toInt < 9223372036854775808) : (x * y).toInt = x.toInt * y.toInt := by
  rw [Int64.toInt_mul]
  exact Int.bmod_eq_of_le (by omega) (by omega)
theorem j_of (x : Int32) : x.toInt64.toInt = x.toInt := Int32.toInt_toInt64 x
/-! the two sides' words for 'between' -/
theorem within_t {sh : List gb_Sh} {g : gb_G} {x a b : Int32} {lo hi : Int} (h : im lo hi x) (ha : a.toInt = lo) (hb : b.toInt = hi) : f_X10_within sh g x a b = some (g, 1) := by
  unfold f_X10_within
  rw [if_neg, if_neg]
  · rw [Int32.lt_iff_toInt_lt, hb]; have := h.2; omega
  · rw [Int32.lt_iff_toInt_lt, ha]; have := h.1; omega
theorem within_f {sh : List gb_Sh} {g : gb_G} {x a b : Int32} {lo hi : Int} (h : ¬ im lo hi x) (ha : a.toInt = lo) (hb : b.toInt = hi) : f_X10_within sh g x a b = some (g, 0) := by
  unfold f_X10_within
  by_cases h1 : x < a
  · rw [if_pos h1]
  · rw [if_neg h1, if_pos]
    rw [Int32.lt_iff_toInt_lt] at *
    rw [im] at h
    omega
theorem in_t {sh : List gb_Sh} {g : gb_G} {x : Int32} {a b : Int64} {lo hi : Int} (h : im lo hi x) (ha : a.toInt = lo) (hb : b.toInt = hi) : f_X11_in sh g x.toInt64 a b = some (g, 1) := by
  unfold f_X11_in
  have h1 := h.1
  have h2 := h.2
  rw [if_neg, if_neg]
  · rw [lg_cmp_gt, Int64.lt_iff_toInt_lt, j_of, hb]; omega
  · rw [lg_cmp_lt, Int64.lt_iff_toInt_lt, j_of, ha]; omega
theorem in_f {sh : List gb_Sh} {g : gb_G} {x : Int32} {a b : Int64} {lo hi : Int} (h : ¬ im lo hi x) (ha : a.toInt = lo) (hb : b.toInt = hi) : f_X11_in sh g x.toInt64 a b = some (g, 0) := by
  unfold f_X11_in
  by_cases h1 : lg_cmp x.toInt64 a < 0
  · rw [if_pos h1]
  · rw [if_neg h1, if_pos]
    rw [lg_cmp_lt, Int64.lt_iff_toInt_lt, j_of, ha] at h1
    rw [lg_cmp_gt, Int64.lt_iff_toInt_lt, j_of, hb]
    rw [im] at h
    omega
