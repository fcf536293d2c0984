/-! ===== feed, row ===== -/
theorem bv_int (x : Int32) : ∃ z : Int, x.toInt = (x.toBitVec.toNat : Int) + 4294967296 * z ∧ x.toBitVec.toNat < 4294967296 := by
  have h1 : x.toInt = x.toBitVec.toInt := rfl
  have h2 := BitVec.toInt_eq_toNat_cond x.toBitVec
  have h3 := x.toBitVec.isLt
  rw [h1, h2]
  split
  · exact ⟨0, by omega, h3⟩
  · exact ⟨-1, by omega, h3⟩
theorem byte_e (v s : Int32) (k : Nat) (hk : k = 0 ∨ k = 8 ∨ k = 16 ∨ k = 24) (h1 : ((s &&& 31).toBitVec.smod 32).toNat = k) (h2 : ((s.toUInt32 &&& Int32.toUInt32 31).toBitVec % 32).toNat = k) : ((v.toUInt32 >>> (s.toUInt32 &&& Int32.toUInt32 31)).toInt32) &&& 255 = (v >>> (s &&& 31)) &&& 255 := by
  rw [pk_and _ 8 (by decide), pk_and _ 8 (by decide), pk_ushr v s k h2]
  have e := pk_shr v (s &&& 31) k h1
  rw [Int.shiftRight_eq_div_pow] at e
  obtain ⟨z1, a1, a2⟩ := bv_int v
  obtain ⟨z2, b1, b2⟩ := bv_int (v >>> (s &&& 31))
  congr 1
  rw [a1, b1] at e
  rcases hk with rfl | rfl | rfl | rfl <;> omega
theorem byte_b (v : Int32) : im 0 255 (v &&& 255) := by
  rw [pk_and _ 8 (by decide), im]
  show 0 ≤ (Int32.ofNat _).toInt ∧ (Int32.ofNat _).toInt ≤ 255
  rw [o_int (by omega)]
  omega
def byt (v : Int32) (j : Nat) : Int32 := (v >>> (([24, 16, 8, 0].getD j 0 : Int32) &&& 31)) &&& 255
theorem app_1 {sh : List gb_Sh} {g : gb_G} {n fuel : Nat} {v y : Int32} (h0 : g.1 43 1 = Int32.ofNat n) (hn : n < 400) (hy : ¬ y < 0) : f_X9_append_3 sh (fuel + 1) g v y = f_X9_append_3 sh fuel (gb_pi (gb_pi g 44 n (((v.toUInt32 >>> (y.toUInt32 &&& Int32.toUInt32 31)).toInt32) &&& 255)) 43 1 (Int32.ofNat (n + 1))) v (y + (-8)) := by
  rw [f_X9_append_3, if_neg hy, h0, if_neg (by rw [show (400 : Int32) = Int32.ofNat 400 from rfl, o_le (by omega) (by omega)]; omega), gb_ck_s (o_in hn (by omega)), o_cl (by omega), gb_let_s, gb_let_s, pi_n (by omega), h0, o_succ]
theorem fou_1 {sh : List gb_Sh} {g : gb_G} {n fuel : Nat} {v y : Int32} (h0 : g.1 77 13 = Int32.ofNat n) (hn : n < 400) (hy : ¬ y < 0) : f_X11_four_3 sh (fuel + 1) g v y = f_X11_four_3 sh fuel (gb_pi (gb_pi g 86 n ((v >>> (y &&& 31)) &&& 255)) 77 13 (Int32.ofNat (n + 1))) v (y + (-8)) := by
  rw [f_X11_four_3, if_neg hy, h0, gb_ck_s (o_in hn (by omega)), o_cl (by omega), gb_let_s, gb_let_s, pi_n (by omega), h0, o_succ]
theorem app_c {sh : List gb_Sh} {g : gb_G} {n : Nat} {v : Int32} (h0 : g.1 43 1 = Int32.ofNat n) (hn : n + 4 ≤ 400) : gb_T (f_X9_append sh g v) (fun o => o.1 43 1 = Int32.ofNat (n + 4) ∧ (∀ j, j < n → o.1 44 j = g.1 44 j) ∧ ∀ j, j < 4 → o.1 44 (n + j) = byt v j) := by
  unfold f_X9_append
  rw [show gb_N = 999995 + 1 + 1 + 1 + 1 + 1 from rfl, app_1 h0 (by omega) (by decide), app_1 (n := n + 1) pi_e (by omega) (by decide), app_1 (n := n + 1 + 1) pi_e (by omega) (by decide), app_1 (n := n + 1 + 1 + 1) pi_e (by omega) (by decide), f_X9_append_3, if_pos (by decide)]
  refine ⟨_, rfl, pi_e, fun j hj => ?_, fun j hj => ?_⟩
  · rw [pi_n (by omega), pi_n (by omega), pi_n (by omega), pi_n (by omega), pi_n (by omega), pi_n (by omega), pi_n (by omega), pi_n (by omega)]
  · have hj' : j = 0 ∨ j = 1 ∨ j = 2 ∨ j = 3 := by omega
    rcases hj' with rfl | rfl | rfl | rfl
    · rw [pi_n (by omega), pi_n (by omega), pi_n (by omega), pi_n (by omega), pi_n (by omega), pi_n (by omega), pi_n (by omega)]
      exact pi_e.trans (byte_e v 24 24 (by omega) (by decide) (by decide))
    · rw [pi_n (by omega), pi_n (by omega), pi_n (by omega), pi_n (by omega), pi_n (by omega)]
      exact pi_e.trans (byte_e v 16 16 (by omega) (by decide) (by decide))
    · rw [pi_n (by omega), pi_n (by omega), pi_n (by omega)]
      exact pi_e.trans (byte_e v 8 8 (by omega) (by decide) (by decide))
    · rw [pi_n (by omega)]
      exact pi_e.trans (byte_e v 0 0 (by omega) (by decide) (by decide))
theorem fou_m {sh : List gb_Sh} {g : gb_G} {n : Nat} {v : Int32} (h0 : g.1 77 13 = Int32.ofNat n) (hn : n + 4 ≤ 400) : gb_T (f_X11_four sh g v) (fun o => o.1 77 13 = Int32.ofNat (n + 4) ∧ (∀ j, j < n → o.1 86 j = g.1 86 j) ∧ ∀ j, j < 4 → o.1 86 (n + j) = byt v j) := by
  unfold f_X11_four
  rw [show gb_N = 999995 + 1 + 1 + 1 + 1 + 1 from rfl, fou_1 h0 (by omega) (by decide), fou_1 (n := n + 1) pi_e (by omega) (by decide), fou_1 (n := n + 1 + 1) pi_e (by omega) (by decide), fou_1 (n := n + 1 + 1 + 1) pi_e (by omega) (by decide), f_X11_four_3, if_pos (by decide)]
  refine ⟨_, rfl, pi_e, fun j hj => ?_, fun j hj => ?_⟩
  · rw [pi_n (by omega), pi_n (by omega), pi_n (by omega), pi_n (by omega), pi_n (by omega), pi_n (by omega), pi_n (by omega), pi_n (by omega)]
  · have hj' : j = 0 ∨ j = 1 ∨ j = 2 ∨ j = 3 := by omega
    rcases hj' with rfl | rfl | rfl | rfl
    · rw [pi_n (by omega), pi_n (by omega), pi_n (by omega), pi_n (by omega), pi_n (by omega), pi_n (by omega), pi_n (by omega)]
      exact pi_e
    · rw [pi_n (by omega), pi_n (by omega), pi_n (by omega), pi_n (by omega), pi_n (by omega)]
      exact pi_e
    · rw [pi_n (by omega), pi_n (by omega), pi_n (by omega)]
      exact pi_e
    · rw [pi_n (by omega)]
      exact pi_e
/-- what the tape holds: n bytes B -/
def cvTp (g : gb_G) (n : Nat) (B : Nat → Int32) : Prop := g.1 43 1 = Int32.ofNat n ∧ ∀ j, j < n → g.1 44 j = B j
def mvTp (g : gb_G) (n : Nat) (B : Nat → Int32) : Prop := g.1 77 13 = Int32.ofNat n ∧ ∀ j, j < n → g.1 86 j = B j
def tApp (n : Nat) (B : Nat → Int32) (v : Int32) (j : Nat) : Int32 := if j < n then B j else byt v (j - n)
theorem app_T {sh : List gb_Sh} {g : gb_G} {n : Nat} {v : Int32} {B : Nat → Int32} (h : cvTp g n B) (hn : n + 4 ≤ 400) : gb_T (f_X9_append sh g v) (fun o => cvTp o (n + 4) (tApp n B v)) := by
  obtain ⟨o, e, a, b, c⟩ := app_c (sh := sh) (v := v) h.1 hn
  refine ⟨o, e, a, fun j hj => ?_⟩
  unfold tApp
  by_cases q : j < n
  · rw [if_pos q, b j q]; exact h.2 j q
  · rw [if_neg q, ← c (j - n) (by omega), show n + (j - n) = j by omega]
theorem fou_T {sh : List gb_Sh} {g : gb_G} {n : Nat} {v : Int32} {B : Nat → Int32} (h : mvTp g n B) (hn : n + 4 ≤ 400) : gb_T (f_X11_four sh g v) (fun o => mvTp o (n + 4) (tApp n B v)) := by
  obtain ⟨o, e, a, b, c⟩ := fou_m (sh := sh) (v := v) h.1 hn
  refine ⟨o, e, a, fun j hj => ?_⟩
  unfold tApp
  by_cases q : j < n
  · rw [if_pos q, b j q]; exact h.2 j q
  · rw [if_neg q, ← c (j - n) (by omega), show n + (j - n) = j by omega]
theorem tApp_b {n : Nat} {B : Nat → Int32} {v : Int32} (h : ∀ j, j < n → im 0 255 (B j)) : ∀ j, j < n + 4 → im 0 255 (tApp n B v j) := by
  intro j hj
  unfold tApp
  split
  · exact h j (by omega)
  · exact byte_b _
theorem p_feed : ps_feed gb_I := by
  intro sh g x1 x2 x3 x4 x5 hI
  obtain ⟨n, hn, t1, t2, t3⟩ := hI.2.2.2.2.2.1
  by_cases q : n + 20 ≤ 400
  · have hc0 : cvTp g n (g.1 86) := ⟨t1, fun j hj => (t3 j hj).1⟩
    obtain ⟨o1, e1, T1⟩ := app_T (sh := sh) (v := x1) hc0 (by omega)
    obtain ⟨o2, e2, T2⟩ := app_T (sh := sh) (v := x2) T1 (by omega)
    obtain ⟨o3, e3, T3⟩ := app_T (sh := sh) (v := x3) T2 (by omega)
    obtain ⟨o4, e4, T4⟩ := app_T (sh := sh) (v := x4) T3 (by omega)
    obtain ⟨o5, e5, T5⟩ := app_T (sh := sh) (v := x5) T4 (by omega)
    have r1 : f_X10_feed sh g x1 x2 x3 x4 x5 = some (o5, Int32.ofNat (n + 4 + 4 + 4 + 4 + 4)) := by
      unfold f_X10_feed
      rw [t1, show (20 : Int32) = Int32.ofNat 20 from rfl, o_add, if_pos (by rw [show (400 : Int32) = Int32.ofNat 400 from rfl, o_le (by omega) (by omega)]; omega), e1, gb_bd_s, e2, gb_bd_s, e3, gb_bd_s, e4, gb_bd_s, e5, gb_bd_s, T5.1]
    have F1 := w_X10_feed r1
    have hm0 : mvTp (gb_pi o5 77 0 0) n (g.1 86) := ⟨(pi_n (by omega)).trans ((F1 77 13 (by omega)).1.trans t2), fun j hj => (pi_n (by omega)).trans (F1 86 j (by omega)).1⟩
    obtain ⟨m1, f1, M1⟩ := fou_T (sh := sh) (v := x1) hm0 (by omega)
    obtain ⟨m2, f2, M2⟩ := fou_T (sh := sh) (v := x2) M1 (by omega)
    obtain ⟨m3, f3, M3⟩ := fou_T (sh := sh) (v := x3) M2 (by omega)
    obtain ⟨m4, f4, M4⟩ := fou_T (sh := sh) (v := x4) M3 (by omega)
    obtain ⟨m5, f5, M5⟩ := fou_T (sh := sh) (v := x5) M4 (by omega)
    have r2 : f_X11_feed sh o5 x1 x2 x3 x4 x5 = some (m5, Int32.ofNat (n + 4 + 4 + 4 + 4 + 4)) := by
      unfold f_X11_feed
      rw [gb_let_s, hm0.1, show (20 : Int32) = Int32.ofNat 20 from rfl, o_add, if_pos (by rw [show (400 : Int32) = Int32.ofNat 400 from rfl, o_le (by omega) (by omega)]; omega), f1, gb_bd_s, f2, gb_bd_s, f3, gb_bd_s, f4, gb_bd_s, f5, gb_bd_s, M5.1]
    have F2 := w_X11_feed r2
    have F := fr2 F1 F2
    refine ⟨_, _, r1, r2, rfl, ?_⟩
    obtain ⟨hS, ⟨h1, h2⟩, h3, h4, h5, h6, h7, h8, β, h9, h10⟩ := hI
    have b0 : ∀ j, j < n → im 0 255 (g.1 86 j) := fun j hj => by rw [← (t3 j hj).1]; exact (t3 j hj).2
    have b5 := tApp_b (v := x5) (tApp_b (v := x4) (tApp_b (v := x3) (tApp_b (v := x2) (tApp_b (v := x1) b0))))
    have hT : iT m5 := ⟨n + 4 + 4 + 4 + 4 + 4, by omega, (F2 43 1 (by omega)).1.trans T5.1, M5.1, fun j hj => by
      rw [(F2 44 j (by omega)).1, T5.2 j hj, M5.2 j hj]; exact ⟨rfl, b5 j hj⟩⟩
    exact ⟨hS, ⟨mvC_fr h1 fun c k q => F c k (by omega) (by omega), (F 77 20 (by omega) (by omega)).1.trans h2⟩, iF_fr h3 fun c k q => F c k (by omega) (by omega), iM_fr h4 fun c k q => F c k (by omega) (by omega), iR_fr h5 fun c k q => F c k (by omega) (by omega), hT, iD_fr h7 fun c k q => F c k (by omega) (by omega), iI_fr h8 fun c k q => F c k (by omega) (by omega), β, iB_fr h9 fun c k q => F c k (by omega) (by omega), iU_fr h9.1.1 h10 fun c k q => F c k (by omega) (by omega)⟩
  · refine ⟨(g, -1), (gb_pi g 77 0 0, -1), ?_, ?_, rfl, I770 hI⟩
    · unfold f_X10_feed
      rw [t1, show (20 : Int32) = Int32.ofNat 20 from rfl, o_add, if_neg (by rw [show (400 : Int32) = Int32.ofNat 400 from rfl, o_le (by omega) (by omega)]; omega)]
    · show f_X11_feed sh g _ _ _ _ _ = _
      unfold f_X11_feed
      rw [gb_let_s, show (gb_pi g 77 0 0).1 77 13 = g.1 77 13 from pi_n (by omega), t2, show (20 : Int32) = Int32.ofNat 20 from rfl, o_add, if_neg (by rw [show (400 : Int32) = Int32.ofNat 400 from rfl, o_le (by omega) (by omega)]; omega)]
