/-! ===== signs, numbers, words ===== -/
abbrev isG (n : Nat) (B : Nat → Int32) (t : Nat) (c : Int32) : Prop := t < n ∧ B t = c
theorem sg_c {sh : List gb_Sh} {n t : Nat} {B : Nat → Int32} {g : gb_G} {c : Int32} (hn : n ≤ 400) (h : cS g n B t) (hc : ¬ c = -1) : f_X9_isSign sh g c = some (g, if isG n B t c then 1 else 0) := by
  obtain ⟨hT, ht, h2, h3, h4⟩ := h
  unfold f_X9_isSign
  rw [h2]
  by_cases q : t < n
  · rw [bA_t hn hT q, gb_bd_s]
    simp only []
    by_cases q2 : B t = c
    · rw [if_pos q2, if_pos ⟨q, q2⟩]
    · rw [if_neg q2, if_neg (fun z => q2 z.2)]
  · rw [bA_f hn hT (by rw [im, o_int (by omega)]; omega), gb_bd_s]
    simp only []
    rw [if_neg (fun z => hc z.symm), if_neg (fun z => q z.1)]
theorem t64 {x y : Int32} : x.toInt64 = y.toInt64 ↔ x = y := by
  constructor
  · intro h
    have := congrArg Int64.toInt h
    rw [Int32.toInt_toInt64, Int32.toInt_toInt64] at this
    exact Int32.toInt_inj.1 this
  · intro h; rw [h]
theorem sg_m {sh : List gb_Sh} {n t : Nat} {B : Nat → Int32} {g : gb_G} {c : Int32} (h : mS g n B t) (hc : ky c = 0) : f_X11_isSign sh g c = some (g, if isG n B t c then 1 else 0) := by
  obtain ⟨hT, ht, h2, h3, h4, h5⟩ := h
  unfold f_X11_isSign
  rw [h4, h5]
  by_cases q : t < n
  · by_cases k0 : ky (B t) = 0
    · rw [so, if_pos q, if_pos k0, if_pos (show Int32.ofNat 3 = 3 from rfl), wo, if_pos q, if_pos k0]
      by_cases q2 : B t = c
      · rw [if_pos ((lg_cmp_eq _ _).2 (t64.2 q2)), if_pos ⟨q, q2⟩]
      · rw [if_neg (fun z => q2 (t64.1 ((lg_cmp_eq _ _).1 z))), if_neg (fun z => q2 z.2)]
    · have := ky_2 (B t)
      rw [so, if_pos q, if_neg k0, if_neg (fun z => by have := o_inj (j := 3) (by omega) (by omega) z; omega), if_neg (fun z => k0 (by rw [z.2]; exact hc))]
  · rw [so, if_neg q, if_neg (by decide), if_neg (fun z => q z.1)]
/-! numbers -/
def dg (B : Nat → Int32) (s : Nat) : Nat := (B s).toNatClampNeg - 48
def nv (n : Nat) (B : Nat → Int32) : Nat → Nat → Nat → Nat
  | 0, _, a => a
  | f + 1, s, a => if s < n ∧ ky (B s) = 2 then nv n B f (s + 1) (if a ≤ 1000000 then a * 10 + dg B s else a) else a
def NV (n : Nat) (B : Nat → Int32) (t : Nat) : Nat := nv n B 401 t 0
theorem dg_e {B : Nat → Int32} {s : Nat} (h : ky (B s) = 2) : dg B s ≤ 9 ∧ B s = Int32.ofNat (dg B s + 48) := by
  have h1 : 48 ≤ B s ∧ B s ≤ 57 := by
    unfold ky at h
    split at h
    · omega
    · split at h
      · next q => exact q
      · omega
  have a := Int32.le_iff_toInt_le.1 h1.1
  have b := Int32.le_iff_toInt_le.1 h1.2
  rw [show (48 : Int32).toInt = 48 from rfl] at a
  rw [show (57 : Int32).toInt = 57 from rfl] at b
  obtain ⟨i, hi, e⟩ := o_of (n := 58) (x := B s) ⟨by omega, by omega⟩
  rw [e, o_int (by omega)] at a
  unfold dg
  rw [e, o_cl (by omega)]
  refine ⟨by omega, ?_⟩
  rw [show i - 48 + 48 = i by omega]
theorem nv_b {n : Nat} {B : Nat → Int32} : ∀ f s a, a ≤ 10000009 → nv n B f s a ≤ 10000009 := by
  intro f
  induction f with
  | zero => intro s a h; exact h
  | succ f ih =>
    intro s a h
    rw [nv]
    split
    · next q =>
      apply ih
      have := (dg_e q.2).1
      split <;> omega
    · exact h
theorem s64 {a b : Nat} (h : b ≤ a) : Int64.ofNat a - Int64.ofNat b = Int64.ofNat (a - b) := by
  have : Int64.ofNat a = Int64.ofNat (a - b) + Int64.ofNat b := by rw [a64, Nat.sub_add_cancel h]
  rw [this, Int64.add_sub_cancel]
theorem wn_e {n : Nat} {B : Nat → Int32} : ∀ f s a, a ≤ 10000009 → wn n B f s (Int64.ofNat a) = Int64.ofNat (nv n B f s a) := by
  intro f
  induction f with
  | zero => intro s a h; rfl
  | succ f ih =>
    intro s a h
    rw [wn, nv]
    by_cases q : s < n ∧ ky (B s) = 2
    · obtain ⟨d1, d2⟩ := dg_e q.2
      rw [if_pos q, if_pos q]
      by_cases q2 : a ≤ 1000000
      · rw [if_pos (by rw [show (1000000 : Int64) = Int64.ofNat 1000000 from rfl, c64 (by omega) (by omega)]; exact q2), if_pos q2, d2, n64 (by omega), show (10 : Int64) = Int64.ofNat 10 from rfl, show (48 : Int64) = Int64.ofNat 48 from rfl, m64, a64, s64 (by omega), show a * 10 + (dg B s + 48) - 48 = a * 10 + dg B s by omega]
        exact ih _ _ (by omega)
      · rw [if_neg (by rw [show (1000000 : Int64) = Int64.ofNat 1000000 from rfl, c64 (by omega) (by omega)]; exact q2), if_neg q2]
        exact ih _ _ h
    · rw [if_neg q, if_neg q]
theorem nu17 {sh : List gb_Sh} {n e : Nat} {B : Nat → Int32} {g : gb_G} (hn : n ≤ 400) (hT : cvTp g n B) (he : g.1 43 3 = Int32.ofNat e) : ∀ f s a F, n ≤ s + f → s ≤ n → e = rnn n B 2 f s → a ≤ 10000009 → f_X9_number_17 sh (F + f + 1) g (Int32.ofNat (min 1001 a)) (Int32.ofNat s) = some (g, Int32.ofNat (min 1001 (nv n B f s a))) := by
  intro f
  induction f with
  | zero =>
    intro s a F hf hs hr ha
    have hr' : e = s := hr
    rw [f_X9_number_17, he, hr', if_pos (by rw [o_le (by omega) (by omega)]; omega)]; rfl
  | succ f ih =>
    intro s a F hf hs hr ha
    rw [rnn] at hr
    by_cases q : s < n ∧ ky (B s) = 2
    · rw [if_pos q] at hr
      obtain ⟨d1, d2⟩ := dg_e q.2
      have hb := rnn_b (B := B) (k := 2) f (s + 1) (show s + 1 ≤ n by omega)
      have hm : min 1001 a ≤ 1001 := Nat.min_le_left _ _
      rw [f_X9_number_17, he, if_neg (by rw [o_le (by omega) (by omega)]; omega), bA_t hn hT q.1, gb_bd_s]
      simp only []
      rw [d2, show (10 : Int32) = Int32.ofNat 10 from rfl, show (48 : Int32) = Int32.ofNat 48 from rfl, show (1001 : Int32) = Int32.ofNat 1001 from rfl, o_mul, o_add, a_sub (by omega), min_c (by omega) (by omega), gb_bd_s, o_succ]
      simp only []
      have e2 : min 1001 (min 1001 a * 10 + (dg B s + 48) - 48) = min 1001 (if a ≤ 1000000 then a * 10 + dg B s else a) := by
        split <;> omega
      rw [e2, nv, if_pos q]
      exact ih (s + 1) (if a ≤ 1000000 then a * 10 + dg B s else a) F (by omega) (by omega) hr (by split <;> omega)
    · rw [if_neg q] at hr
      rw [f_X9_number_17, he, hr, if_pos (by rw [o_le (by omega) (by omega)]; omega), nv, if_neg q]
theorem num_c {sh : List gb_Sh} {n t : Nat} {B : Nat → Int32} {g : gb_G} (hn : n ≤ 400) (h : cS g n B t) (hk : kd n B t = 2) : f_X9_number sh g = some (g, Int32.ofNat (min 1001 (NV n B t))) := by
  obtain ⟨hT, ht, h2, h3, h4⟩ := h
  unfold f_X9_number
  rw [h4, hk, if_pos (show Int32.ofNat 2 = 2 from rfl), h2]
  have q : t < n ∧ ky (B t) = 2 := by
    unfold kd at hk
    split at hk
    · next q => exact ⟨q, hk⟩
    · omega
  have e : stp n B t = rnn n B 2 401 t := by rw [stp, if_pos q.1, if_neg (by omega), q.2, show rnn n B 2 401 t = _ from if_pos q]
  exact nu17 (sh := sh) hn hT h3 401 t 0 999598 (by omega) ht e (by omega)
theorem num_cn {sh : List gb_Sh} {n t : Nat} {B : Nat → Int32} {g : gb_G} (h : cS g n B t) (hk : ¬ kd n B t = 2) : f_X9_number sh g = some (g, -1) := by
  obtain ⟨hT, ht, h2, h3, h4⟩ := h
  unfold f_X9_number
  have : kd n B t ≤ 2 := by
    unfold kd
    have := ky_2 (B t)
    split <;> omega
  rw [h4, if_neg (show ¬ Int32.ofNat (kd n B t) = 2 from fun z => hk (o_inj (j := 2) (by omega) (by omega) z))]
theorem so_2 {n t : Nat} {B : Nat → Int32} : so n B t = 2 ↔ kd n B t = 2 := by
  unfold so kd
  split
  · split <;> omega
  · omega
theorem wo_2 {n t : Nat} {B : Nat → Int32} (h : kd n B t = 2) : wo n B t = Int64.ofNat (NV n B t) := by
  have q : t < n ∧ ky (B t) = 2 := by
    unfold kd at h
    split at h
    · next q => exact ⟨q, h⟩
    · omega
  rw [wo, if_pos q.1, if_neg (by omega), if_neg (by omega)]
  exact wn_e 401 t 0 (by omega)
theorem NV_b {n t : Nat} {B : Nat → Int32} : NV n B t ≤ 10000009 := nv_b _ _ _ (by omega)
/-! words -/
def wq (e : Nat) (B : Nat → Int32) : Nat → List Int32 → Bool
  | a, [] => a == e
  | a, c :: r => (decide (a < e) && decide (B a = c)) && wq e B (a + 1) r
def sbt (s1 i : Nat) : Int32 := (gb_sb.getD s1 []).getD i 0
def okw (s1 : Nat) : Nat → List Int32 → Bool
  | i, [] => decide (i = gb_sl.getD s1 0) || (decide (i < gb_sl.getD s1 0) && decide (sbt s1 i = 32))
  | i, c :: r => decide (i < gb_sl.getD s1 0) && decide (sbt s1 i = c) && decide (33 ≤ c) && decide (c ≤ 127) && okw s1 (i + 1) r
def okJ (s1 : Nat) : Nat → List (List Int32) → Bool
  | i, [] => decide (i = gb_sl.getD s1 0 + 1)
  | i, w :: ws => okw s1 i w && okJ s1 (i + w.length + 1) ws
def fw (e : Nat) (B : Nat → Int32) (t : Nat) : List (List Int32) → Nat → Option Nat
  | [], _ => none
  | w :: ws, k => if wq e B t w then some k else fw e B t ws (k + 1)
theorem chr_f : ∀ k : Fin 128, (((Int32.ofNat k.val) &&& 255).toUInt32 % 65536).toInt32 = Int32.ofNat k.val ∧ narrow .char (.int (Int32.ofNat k.val)) = .int (Int32.ofNat k.val) := by decide
theorem gb_nr_s {β : Type} {ty : FieldType} {x : Int32} {b : Option β} (h : narrow ty (.int x) = .int x) : gb_nr ty x b = b := if_pos h
theorem chr_c {sh : List gb_Sh} {g : gb_G} {s1 i : Nat} (hl : gb_sl.getD s1 0 < 100) (hi : i < gb_sl.getD s1 0) (hb : ∃ k, k < 128 ∧ sbt s1 i = Int32.ofNat k) : f_J0_charAt_5068e sh g s1 (Int32.ofNat i) = some (g, sbt s1 i) := by
  obtain ⟨k, hk, e⟩ := hb
  have c := chr_f ⟨k, hk⟩
  have e' : (gb_sb.getD s1 []).getD i 0 = Int32.ofNat k := e
  unfold f_J0_charAt_5068e f_J0_isLatin1_aae02 f_J1_charAt_3b067 f_J0_checkIndex_df160 f_J3_checkIndex_8e157
  rw [bt]
  simp only []
  rw [if_neg (by rw [show (0 : Int32) = Int32.ofNat 0 from rfl, o_lt (by omega) (by omega)]; omega), if_pos (by rw [o_lt (by omega) (by omega)]; exact hi), gb_bd_s, gb_bd_s]
  simp only []
  rw [gb_ck_s (o_in hi (by omega)), o_cl (by omega), e', c.1, gb_nr_s c.2, gb_bd_s]
  simp only []
  rw [gb_nr_s c.2, e]
theorem len_c {sh : List gb_Sh} {g : gb_G} {s1 : Nat} (hl : s1 < 13) : f_J0_length_8abf5 sh g s1 = some (g, Int32.ofNat (gb_sl.getD s1 0)) := by
  unfold f_J0_length_8abf5 f_J0_coder_7d493
  rw [gb_bd_s]
  simp only []
  have : ∀ k : Fin 13, (Int32.ofNat (gb_sl.getD k.val 0)) >>> ((0 : Int32) &&& 31) = Int32.ofNat (gb_sl.getD k.val 0) := by decide
  rw [this ⟨s1, hl⟩]
