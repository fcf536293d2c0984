/-! ===== words: wordIn, isWord ===== -/
theorem b127 {c : Int32} (h1 : 33 ≤ c) (h2 : c ≤ 127) : ∃ k, k < 128 ∧ c = Int32.ofNat k := by
  have a := Int32.le_iff_toInt_le.1 h1
  have b := Int32.le_iff_toInt_le.1 h2
  rw [show (33 : Int32).toInt = 33 from rfl] at a
  rw [show (127 : Int32).toInt = 127 from rfl] at b
  exact o_of (n := 128) ⟨by omega, by omega⟩
theorem sl_b : ∀ k : Fin 13, gb_sl.getD k.val 0 < 100 := by decide
/-- behind a word -/
theorem wi_end {sh : List gb_Sh} {n t s1 i F k : Nat} {B : Nat → Int32} {g : gb_G} {y3 y4 : Int32} (hs : s1 < 13) (h : cS g n B t) (ho : okw s1 i [] = true) : f_X9_wordIn_13 sh s1 (F + 1) g (Int32.ofNat k) y3 y4 (Int32.ofNat i) = if ¬ y4 = 0 ∧ y3 = Int32.ofNat (stp n B t) then some (g, Int32.ofNat k) else f_X9_wordIn_13 sh s1 F g (Int32.ofNat (k + 1)) (Int32.ofNat t) 1 (Int32.ofNat (i + 1)) := by
  obtain ⟨hT, ht, h2, h3, h4⟩ := h
  have hl := sl_b ⟨s1, hs⟩
  simp only [] at hl
  have key : f_X9_wordIn_42 sh s1 (fun w w0 w1 w2 w3 => f_X9_wordIn_108 sh s1 (fun w w0 w1 w2 w3 => f_X9_wordIn_13 sh s1 F w w0 w1 w2 w3) w w0 w1 w2 w3) g (Int32.ofNat k) y3 y4 (Int32.ofNat i) = if ¬ y4 = 0 ∧ y3 = Int32.ofNat (stp n B t) then some (g, Int32.ofNat k) else f_X9_wordIn_13 sh s1 F g (Int32.ofNat (k + 1)) (Int32.ofNat t) 1 (Int32.ofNat (i + 1)) := by
    unfold f_X9_wordIn_42 f_X9_wordIn_57 f_X9_wordIn_108
    simp only []
    rw [h2, h3, o_succ, o_succ]
    by_cases q : y4 = 0
    · rw [if_pos q, if_neg (fun z => z.1 q)]
    · rw [if_neg q]
      by_cases q2 : y3 = Int32.ofNat (stp n B t)
      · rw [if_pos q2, if_pos ⟨q, q2⟩]
      · rw [if_neg q2, if_neg (fun z => q2 z.2)]
  rw [f_X9_wordIn_13, len_c hs, gb_bd_s]
  simp only []
  unfold okw at ho
  rw [Bool.or_eq_true, Bool.and_eq_true, decide_eq_true_eq, decide_eq_true_eq, decide_eq_true_eq] at ho
  rcases ho with ho | ⟨ho, hc⟩
  · rw [if_neg (by rw [o_lt (by omega) (by omega)]; omega), len_c hs, gb_bd_s]
    simp only []
    rw [if_pos (by rw [ho])]
    exact key
  · rw [if_neg (by rw [o_lt (by omega) (by omega)]; omega), len_c hs, gb_bd_s]
    simp only []
    rw [if_neg (fun z => by have := o_inj (by omega) (by omega) z; omega), chr_c hl ho ⟨32, by omega, hc⟩, gb_bd_s]
    simp only []
    rw [hc, if_pos rfl]
    exact key
/-- along a word -/
theorem wi_chr {sh : List gb_Sh} {n t s1 i F k a : Nat} {B : Nat → Int32} {g : gb_G} {y4 c : Int32} {r : List Int32} (hn : n ≤ 400) (hs : s1 < 13) (h : cS g n B t) (ho : okw s1 i (c :: r) = true) (ha : a < 1000) : f_X9_wordIn_13 sh s1 (F + 1) g (Int32.ofNat k) (Int32.ofNat a) y4 (Int32.ofNat i) = f_X9_wordIn_13 sh s1 F g (Int32.ofNat k) (Int32.ofNat (a + 1)) (if ¬ y4 = 0 ∧ a < stp n B t ∧ B a = c then 1 else 0) (Int32.ofNat (i + 1)) ∧ okw s1 (i + 1) r = true := by
  obtain ⟨hT, ht, h2, h3, h4⟩ := h
  have hb := stp_b (B := B) ht
  have hl := sl_b ⟨s1, hs⟩
  simp only [] at hl
  unfold okw at ho
  rw [Bool.and_eq_true, Bool.and_eq_true, Bool.and_eq_true, Bool.and_eq_true, decide_eq_true_eq, decide_eq_true_eq, decide_eq_true_eq, decide_eq_true_eq] at ho
  obtain ⟨⟨⟨⟨o1, o2⟩, o3⟩, o4⟩, o5⟩ := ho
  refine ⟨?_, o5⟩
  have hk := b127 o3 o4
  have h32 : ¬ c = 32 := by intro z; rw [z] at o3; exact absurd o3 (by decide)
  rw [f_X9_wordIn_13, len_c hs, gb_bd_s]
  simp only []
  rw [if_neg (by rw [o_lt (by omega) (by omega)]; omega), len_c hs, gb_bd_s]
  simp only []
  rw [if_neg (fun z => by have := o_inj (by omega) (by omega) z; omega), chr_c hl o1 (by rw [o2]; exact hk), gb_bd_s]
  simp only []
  rw [o2, if_neg h32]
  unfold f_X9_wordIn_103 f_X9_wordIn_108
  simp only []
  rw [o_succ, o_succ]
  by_cases q : y4 = 0
  · rw [if_pos q, if_neg (fun z => z.1 q)]
  · rw [if_neg q, h3]
    by_cases q2 : a < stp n B t
    · rw [if_neg (by rw [o_le (by omega) (by omega)]; omega), bA_t hn hT (by omega), gb_bd_s]
      simp only []
      rw [chr_c hl o1 (by rw [o2]; exact hk), gb_bd_s]
      simp only []
      rw [o2]
      by_cases q3 : B a = c
      · rw [if_pos q3, if_pos ⟨q, q2, q3⟩]
      · rw [if_neg q3, if_neg (fun z => q3 z.2.2)]
    · rw [if_pos (by rw [o_le (by omega) (by omega)]; omega), if_neg (fun z => q2 z.2.1)]
theorem wi_no {sh : List gb_Sh} {n t s1 k : Nat} {B : Nat → Int32} {g : gb_G} (hn : n ≤ 400) (hs : s1 < 13) (h : cS g n B t) : ∀ (w : List Int32) (i a F : Nat), okw s1 i w = true → a + w.length < 1000 → f_X9_wordIn_13 sh s1 (F + w.length + 1) g (Int32.ofNat k) (Int32.ofNat a) 0 (Int32.ofNat i) = f_X9_wordIn_13 sh s1 F g (Int32.ofNat (k + 1)) (Int32.ofNat t) 1 (Int32.ofNat (i + w.length + 1)) := by
  intro w
  induction w with
  | nil =>
    intro i a F ho ha
    rw [List.length_nil, Nat.add_zero, wi_end hs h ho, if_neg (fun z => z.1 rfl)]
  | cons c r ih =>
    intro i a F ho ha
    rw [List.length_cons] at ha ⊢
    obtain ⟨e, ho2⟩ := wi_chr (sh := sh) (F := F + r.length + 1) (k := k) (a := a) (y4 := 0) hn hs h ho (by omega)
    rw [show F + (r.length + 1) + 1 = F + r.length + 1 + 1 by omega, e, if_neg (fun z => z.1 rfl), ih (i + 1) (a + 1) F ho2 (by omega), show i + 1 + r.length + 1 = i + (r.length + 1) + 1 by omega]
theorem wi_wd {sh : List gb_Sh} {n t s1 k : Nat} {B : Nat → Int32} {g : gb_G} (hn : n ≤ 400) (hs : s1 < 13) (h : cS g n B t) : ∀ (w : List Int32) (i a F : Nat), okw s1 i w = true → a + w.length < 1000 → f_X9_wordIn_13 sh s1 (F + w.length + 1) g (Int32.ofNat k) (Int32.ofNat a) 1 (Int32.ofNat i) = if wq (stp n B t) B a w = true then some (g, Int32.ofNat k) else f_X9_wordIn_13 sh s1 F g (Int32.ofNat (k + 1)) (Int32.ofNat t) 1 (Int32.ofNat (i + w.length + 1)) := by
  have hb := stp_b (B := B) h.2.1
  intro w
  induction w with
  | nil =>
    intro i a F ho ha
    rw [List.length_nil, Nat.add_zero, wi_end hs h ho, wq]
    by_cases q : a = stp n B t
    · rw [if_pos ⟨by decide, by rw [q]⟩, if_pos (by rw [q]; exact beq_self_eq_true _)]
    · rw [if_neg (fun z => q (o_inj (by rw [List.length_nil] at ha; omega) (by omega) z.2)), if_neg (fun z => q (by simpa using z))]
  | cons c r ih =>
    intro i a F ho ha
    rw [List.length_cons] at ha ⊢
    obtain ⟨e, ho2⟩ := wi_chr (sh := sh) (F := F + r.length + 1) (k := k) (a := a) (y4 := 1) hn hs h ho (by omega)
    rw [show F + (r.length + 1) + 1 = F + r.length + 1 + 1 by omega, e, wq]
    by_cases q : a < stp n B t ∧ B a = c
    · rw [if_pos ⟨by decide, q⟩, ih (i + 1) (a + 1) F ho2 (by omega), show i + 1 + r.length + 1 = i + (r.length + 1) + 1 by omega, decide_eq_true q.1, decide_eq_true q.2]
      rfl
    · rw [if_neg (fun z => q z.2), wi_no hn hs h r (i + 1) (a + 1) F ho2 (by omega), show i + 1 + r.length + 1 = i + (r.length + 1) + 1 by omega, if_neg]
      intro z
      rw [Bool.and_eq_true, Bool.and_eq_true, decide_eq_true_eq, decide_eq_true_eq] at z
      exact q z.1
def wlen : List (List Int32) → Nat
  | [] => 0
  | w :: ws => w.length + 1 + wlen ws
theorem wi_ws {sh : List gb_Sh} {n t s1 : Nat} {B : Nat → Int32} {g : gb_G} (hn : n ≤ 400) (hs : s1 < 13) (h : cS g n B t) : ∀ (ws : List (List Int32)) (i k F : Nat), okJ s1 i ws = true → wlen ws < 500 → f_X9_wordIn_13 sh s1 (F + wlen ws + 1) g (Int32.ofNat k) (Int32.ofNat t) 1 (Int32.ofNat i) = some (g, match fw (stp n B t) B t ws k with | none => -1 | some j => Int32.ofNat j) := by
  intro ws
  have hl := sl_b ⟨s1, hs⟩
  simp only [] at hl
  induction ws with
  | nil =>
    intro i k F ho hw
    unfold okJ at ho
    rw [decide_eq_true_eq] at ho
    rw [wlen, f_X9_wordIn_13, len_c hs, gb_bd_s]
    simp only []
    rw [if_pos (by rw [o_lt (by omega) (by omega)]; omega)]; rfl
  | cons w ws ih =>
    intro i k F ho hw
    unfold okJ at ho
    rw [Bool.and_eq_true] at ho
    have ht := h.2.1
    rw [wlen] at hw ⊢
    rw [show F + (w.length + 1 + wlen ws) + 1 = (F + wlen ws + 1) + w.length + 1 by omega, wi_wd hn hs h w i t _ ho.1 (by omega), fw]
    by_cases q : wq (stp n B t) B t w = true
    · rw [if_pos q, if_pos q]
    · rw [if_neg q, if_neg q]
      exact ih _ _ F ho.2 (by omega)
/-- wordIn() -/
theorem wi_c {sh : List gb_Sh} {n t s1 : Nat} {B : Nat → Int32} {g : gb_G} (ws : List (List Int32)) (hn : n ≤ 400) (hs : s1 < 13) (h : cS g n B t) (ho : okJ s1 0 ws = true) (hw : wlen ws < 500) : f_X9_wordIn sh g s1 = some (g, match fw (stp n B t) B t ws 0 with | none => -1 | some j => Int32.ofNat j) := by
  unfold f_X9_wordIn
  rw [h.2.2.1]
  have := wi_ws (sh := sh) hn hs h ws 0 0 (999999 - wlen ws) ho hw
  rw [show gb_N = 999999 - wlen ws + wlen ws + 1 by rw [show gb_N = 1000000 from rfl]; omega]
  exact this
/-- the words -/
def wds : Nat → List (List Int32)
  | 0 => [[108, 97, 99, 107], [102, 105, 110, 100], [119, 101, 105, 103, 104], [112, 97, 115, 115]]
  | 1 => [[109, 111, 118, 101, 115], [99, 111, 117, 110, 116, 115], [103, 108, 97, 100, 115], [98, 97, 114, 115]]
  | 2 => [[98, 121]]
  | 3 => [[116, 105, 109, 101, 115]]
  | 4 => [[105, 102]]
  | 5 => [[111, 114]]
  | 6 => [[97, 110, 100]]
  | 7 => [[110, 111, 116]]
  | 11 => [[109, 111, 110, 116, 104], [100, 111, 110, 101], [108, 97, 116, 101, 115, 116], [102, 105, 103, 117, 114, 101], [108, 97, 99, 107, 105, 110, 103], [110, 111, 119], [119, 101, 105, 103, 104, 116]]
  | 12 => [[103, 111, 111, 100], [98, 97, 115, 101], [110, 111, 119], [119, 101, 105, 103, 104, 116], [103, 108, 97, 100], [108, 97, 99, 107, 115], [112, 108, 97, 99, 101], [109, 111, 110, 116, 104], [109, 111, 111, 100]]
  | _ => []
theorem wds_ok : ∀ k : Fin 13, ¬ (8 ≤ k.val ∧ k.val ≤ 10) → okJ k.val 0 (wds k.val) = true ∧ wlen (wds k.val) < 500 := by decide
def fW (n : Nat) (B : Nat → Int32) (t s1 : Nat) : Option Nat := fw (stp n B t) B t (wds s1) 0
theorem wrd_c {sh : List gb_Sh} {n t s1 : Nat} {B : Nat → Int32} {g : gb_G} (hn : n ≤ 400) (hs : s1 < 13) (hs2 : ¬ (8 ≤ s1 ∧ s1 ≤ 10)) (h : cS g n B t) : f_X9_wordIn sh g s1 = some (g, match fW n B t s1 with | none => -1 | some j => Int32.ofNat j) := by
  have k := wds_ok ⟨s1, hs⟩ hs2
  exact wi_c (wds s1) hn hs h k.1 k.2
/-! the reference's -/
def hw : List Int32 → Nat
  | [] => 0
  | c :: r => hw r * 32 + (c.toNatClampNeg - 96)
def okh : List Int32 → Bool
  | [] => true
  | c :: r => decide (97 ≤ c) && decide (c ≤ 122) && okh r
/-- the hash of k letters -/
def hB (B : Nat → Int32) (t : Nat) : Nat → Nat
  | 0 => 0
  | k + 1 => hB B t k * 32 + ((B (t + k)).toNatClampNeg - 96)
theorem sm_e {x : Int32} (h : ky x = 1) : ∃ d, 1 ≤ d ∧ d ≤ 26 ∧ x = Int32.ofNat (d + 96) ∧ x.toNatClampNeg - 96 = d := by
  have h1 : 97 ≤ x ∧ x ≤ 122 := by
    unfold ky at h
    split at h
    · next q => exact q
    · split at h <;> omega
  have a := Int32.le_iff_toInt_le.1 h1.1
  have b := Int32.le_iff_toInt_le.1 h1.2
  rw [show (97 : Int32).toInt = 97 from rfl] at a
  rw [show (122 : Int32).toInt = 122 from rfl] at b
  obtain ⟨i, hi, e⟩ := o_of (n := 123) (x := x) ⟨by omega, by omega⟩
  rw [e, o_int (by omega)] at a
  refine ⟨i - 96, by omega, by omega, ?_, ?_⟩
  · rw [e, show i - 96 + 96 = i by omega]
  · rw [e, o_cl (by omega)]
theorem hB_b {B : Nat → Int32} {t : Nat} : ∀ k, (∀ j, j < k → ky (B (t + j)) = 1) → hB B t k < 32 ^ k := by
  intro k
  induction k with
  | zero => intro _; exact Nat.one_pos
  | succ k ih =>
    intro h
    obtain ⟨d, d1, d2, d3, d4⟩ := sm_e (h k (by omega))
    have := ih fun j hj => h j (by omega)
    rw [hB, d4, Nat.pow_succ]; omega
theorem hB_i {B : Nat → Int32} {t : Nat} : ∀ (w : List Int32) (k : Nat), okh w = true → (∀ j, j < k → ky (B (t + j)) = 1) → (hB B t k = hw w ↔ k = w.length ∧ ∀ j, j < k → B (t + j) = w.getD (w.length - 1 - j) 0) := by
  intro w
  induction w with
  | nil =>
    intro k _ hk
    cases k with
    | zero => exact ⟨fun _ => ⟨rfl, fun j hj => by omega⟩, fun _ => rfl⟩
    | succ k =>
      obtain ⟨d, d1, d2, d3, d4⟩ := sm_e (hk k (by omega))
      rw [hB, hw, d4]
      exact ⟨fun z => by omega, fun z => by have := z.1; rw [List.length_nil] at this; omega⟩
  | cons c r ih =>
    intro k ho hk
    unfold okh at ho
    rw [Bool.and_eq_true, Bool.and_eq_true, decide_eq_true_eq, decide_eq_true_eq] at ho
    have hc : ky c = 1 := by unfold ky; rw [if_pos (show 97 ≤ c ∧ c ≤ 122 from ho.1)]
    obtain ⟨d, d1, d2, d3, d4⟩ := sm_e hc
    cases k with
    | zero =>
      rw [hB, hw, d4]
      exact ⟨fun z => by omega, fun z => by have := z.1; rw [List.length_cons] at this; omega⟩
    | succ k =>
      obtain ⟨d', e1, e2, e3, e4⟩ := sm_e (hk k (by omega))
      have i := ih k ho.2 fun j hj => hk j (by omega)
      rw [hB, hw, d4, e4, List.length_cons]
      constructor
      · intro z
        have z1 : d' = d := by omega
        have z2 : hB B t k = hw r := by omega
        obtain ⟨i1, i2⟩ := i.1 z2
        refine ⟨by omega, fun j hj => ?_⟩
        by_cases q : j = k
        · subst q
          rw [show r.length + 1 - 1 - j = 0 by omega, List.getD_cons_zero, e3, d3, z1]
        · rw [show r.length + 1 - 1 - j = (r.length - 1 - j) + 1 by omega, List.getD_cons_succ]
          exact i2 j (by omega)
      · intro ⟨z1, z2⟩
        have z3 := z2 k (by omega)
        rw [show r.length + 1 - 1 - k = 0 by omega, List.getD_cons_zero, e3, d3] at z3
        have z4 := o_inj (by omega) (by omega) z3
        have z5 := i.2 ⟨by omega, fun j hj => by
          have := z2 j (by omega)
          rw [show r.length + 1 - 1 - j = (r.length - 1 - j) + 1 by omega, List.getD_cons_succ] at this
          exact this⟩
        omega
