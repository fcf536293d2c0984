/-! ===== partAt, keywords, signIn ===== -/
theorem pA_m {sh : List gb_Sh} {n t : Nat} {B : Nat → Int32} {g : gb_G} (hn : n ≤ 400) (hc : mvC g) (hm : mS g n B t) : f_X11_partAt sh g = some (g, match fW n B t 12 with | none => -1 | some k => Int32.ofNat (k + 1)) := by
  unfold f_X11_partAt
  have key := scn (g := g) (e := stp n B t) (t := t) (B := B) (val := fun k => Int32.ofNat (k + 1)) (fun F g y j => f_X11_partAt_4 sh F g y j) (wds 12) 0 (999990 + 1) (-1) (by decide) (fun F y i hi => by
    have hi9 : i < 9 := hi
    obtain ⟨k1, k2, k3⟩ := hs12_ok ⟨i, hi9⟩
    have e : g.2.1 92 i = Int64.ofNat (hs12.getD i 0) := by
      rw [hc.1 i hi9]
      have : ∀ i : Fin 9, ([245220, 67173, 14839, 777297172, 241700, 12619123, 17171557, 14137992, 441828] : List Int64).getD i.val 0 = Int64.ofNat (hs12.getD i.val 0) := by decide
      exact this ⟨i, hi9⟩
    simp only [Nat.zero_add]
    rw [f_X11_partAt_4, if_neg (by rw [show (9 : Int32) = Int32.ofNat 9 from rfl, o_le (by omega) (by omega)]; omega), gb_ck_s (o_in hi9 (by omega)), o_cl (by omega), e, iw_m hn hm k1 k2 k3, gb_bd_s]
    unfold f_X11_partAt_30
    simp only []
    by_cases q : wq (stp n B t) B t ((wds 12).getD i []) = true
    · rw [if_pos q, if_pos q, if_neg (show ¬ (1 : Int32) = 0 by decide), o_succ]
    · rw [if_neg q, if_neg q, if_pos rfl, o_succ])
  rw [show (wds 12).length = 9 from rfl] at key
  refine (show _ = _ from key).trans ?_
  rw [f_X11_partAt_4, if_pos (by decide)]
  rfl
theorem oA_m {sh : List gb_Sh} {n t : Nat} {B : Nat → Int32} {g : gb_G} (hn : n ≤ 400) (hc : mvC g) (hm : mS g n B t) : f_X11_orderPartAt sh g = some (g, match fW n B t 11 with | none => -1 | some k => Int32.ofNat (k + 1)) := by
  unfold f_X11_orderPartAt
  have key := scn (g := g) (e := stp n B t) (t := t) (B := B) (val := fun k => Int32.ofNat (k + 1)) (fun F g y j => f_X11_orderPartAt_4 sh F g y j) (wds 11) 0 (999992 + 1) (-1) (by decide) (fun F y i hi => by
    have hi9 : i < 7 := hi
    obtain ⟨k1, k2, k3⟩ := hs11_ok ⟨i, hi9⟩
    have e : g.2.1 93 i = Int64.ofNat (hs11.getD i 0) := by
      rw [hc.2.1 i hi9]
      have : ∀ i : Fin 7, ([14137992, 146885, 404362868, 211015237, 12921972167, 14839, 777297172] : List Int64).getD i.val 0 = Int64.ofNat (hs11.getD i.val 0) := by decide
      exact this ⟨i, hi9⟩
    simp only [Nat.zero_add]
    rw [f_X11_orderPartAt_4, if_neg (by rw [show (7 : Int32) = Int32.ofNat 7 from rfl, o_le (by omega) (by omega)]; omega), gb_ck_s (o_in hi9 (by omega)), o_cl (by omega), e, iw_m hn hm k1 k2 k3, gb_bd_s]
    unfold f_X11_orderPartAt_30
    simp only []
    by_cases q : wq (stp n B t) B t ((wds 11).getD i []) = true
    · rw [if_pos q, if_pos q, if_neg (show ¬ (1 : Int32) = 0 by decide), o_succ]
    · rw [if_neg q, if_neg q, if_pos rfl, o_succ])
  rw [show (wds 11).length = 7 from rfl] at key
  refine (show _ = _ from key).trans ?_
  rw [f_X11_orderPartAt_4, if_pos (by decide)]
  rfl
/-- what index a word can have -/
theorem fw_b {e : Nat} {B : Nat → Int32} {t j : Nat} : ∀ (ws : List (List Int32)) (k : Nat), fw e B t ws k = some j → k ≤ j ∧ j < k + ws.length ∧ wq e B t (ws.getD (j - k) []) = true := by
  intro ws
  induction ws with
  | nil => intro k h; cases h
  | cons w ws ih =>
    intro k h
    rw [fw] at h
    split at h
    · next q =>
      cases h
      refine ⟨Nat.le_refl _, by rw [List.length_cons]; omega, ?_⟩
      rw [Nat.sub_self, List.getD_cons_zero]; exact q
    · have i := ih (k + 1) h
      refine ⟨by omega, by rw [List.length_cons]; omega, ?_⟩
      rw [show j - k = (j - (k + 1)) + 1 by omega, List.getD_cons_succ]; exact i.2.2
/-- the TOKEN is this keyword -/
abbrev isK (n : Nat) (B : Nat → Int32) (t s1 : Nat) : Prop := wq (stp n B t) B t ((wds s1).getD 0 []) = true
theorem wqn {n t : Nat} {B : Nat → Int32} {w : List Int32} (ht : t ≤ n) (hw : 0 < w.length) (h : wq (stp n B t) B t w = true) : t < n ∧ B t = w.getD 0 0 := by
  have hb := stp_b (B := B) ht
  obtain ⟨a, b⟩ := (wqi w t hb.1).1 h
  exact ⟨by omega, b 0 hw⟩
theorem kw_e {n t s1 : Nat} {B : Nat → Int32} (hs : 2 ≤ s1 ∧ s1 ≤ 7) : (fW n B t s1 = none ↔ ¬ isK n B t s1) ∧ (isK n B t s1 → fW n B t s1 = some 0) := by
  have h : ∃ w, wds s1 = [w] := by
    have : s1 = 2 ∨ s1 = 3 ∨ s1 = 4 ∨ s1 = 5 ∨ s1 = 6 ∨ s1 = 7 := by omega
    rcases this with rfl | rfl | rfl | rfl | rfl | rfl <;> exact ⟨_, rfl⟩
  obtain ⟨w, e⟩ := h
  unfold fW isK
  rw [e, fw, List.getD_cons_zero]
  by_cases q : wq (stp n B t) B t w = true
  · rw [if_pos q]; exact ⟨⟨fun z => (nomatch z), fun z => absurd q z⟩, fun _ => rfl⟩
  · rw [if_neg q]; exact ⟨⟨fun _ => q, fun _ => rfl⟩, fun z => absurd z q⟩
theorem kw_f {sh : List gb_Sh} {n t s1 : Nat} {B : Nat → Int32} {g : gb_G} (hn : n ≤ 400) (hs : 2 ≤ s1 ∧ s1 ≤ 7) (h : cS g n B t) (hk : ¬ isK n B t s1) : f_X8_readKeyword sh g s1 = some (g, 0) := by
  unfold f_X8_readKeyword
  rw [wrd_c hn (by omega) (by omega) h, (kw_e hs).1.2 hk, gb_bd_s]
  simp only []
  rw [if_pos trivial]
theorem kw_t {sh : List gb_Sh} {n t s1 : Nat} {B : Nat → Int32} {g : gb_G} (hn : n ≤ 400) (hs : 2 ≤ s1 ∧ s1 ≤ 7) (h : cS g n B t) (hk : isK n B t s1) : ∃ o, f_X8_readKeyword sh g s1 = some (o, 1) ∧ cS o n B (tn n B t) ∧ f_X9_step sh g = some o := by
  obtain ⟨o, e, p⟩ := step_c (sh := sh) hn h
  refine ⟨o, ?_, p, e⟩
  unfold f_X8_readKeyword
  rw [wrd_c hn (by omega) (by omega) h, (kw_e hs).2 hk, gb_bd_s]
  simp only []
  rw [if_neg (by decide), e, gb_bd_s]
theorem rs_f {sh : List gb_Sh} {n t : Nat} {c : Int32} {B : Nat → Int32} {g : gb_G} (hn : n ≤ 400) (hc : ¬ c = -1) (h : cS g n B t) (hk : ¬ isG n B t c) : f_X8_readSign sh g c = some (g, 0) := by
  unfold f_X8_readSign
  rw [sg_c hn h hc, if_neg hk, bf]
theorem rs_t {sh : List gb_Sh} {n t : Nat} {c : Int32} {B : Nat → Int32} {g : gb_G} (hn : n ≤ 400) (hc : ¬ c = -1) (h : cS g n B t) (hk : isG n B t c) : ∃ o, f_X8_readSign sh g c = some (o, 1) ∧ cS o n B (tn n B t) ∧ f_X9_step sh g = some o := by
  obtain ⟨o, e, p⟩ := step_c (sh := sh) hn h
  refine ⟨o, ?_, p, e⟩
  unfold f_X8_readSign
  rw [sg_c hn h hc, if_pos hk, bt]
  simp only []
  rw [e, gb_bd_s]
def kh : Nat → Nat
  | 2 => 89
  | 3 => 21279923
  | 4 => 294
  | 5 => 498
  | 6 => 1476
  | _ => 14836
theorem kw_m {sh : List gb_Sh} {n t s1 : Nat} {B : Nat → Int32} {g : gb_G} (hn : n ≤ 400) (hs : 2 ≤ s1 ∧ s1 ≤ 7) (h : mS g n B t) : f_X11_isWord sh g (Int64.ofNat (kh s1)) = some (g, if isK n B t s1 then 1 else 0) := by
  have : ∀ k : Fin 8, 2 ≤ k.val → okW ((wds k.val).getD 0 []) = true ∧ hw ((wds k.val).getD 0 []).reverse = kh k.val ∧ kh k.val < 1125899906842624 := by decide
  obtain ⟨a, b, c⟩ := this ⟨s1, by omega⟩ hs.1
  exact iw_m hn h a b c
/-! which of these signs -/
def sgs : Nat → List Int32
  | 8 => [60, 62, 61]
  | 9 => [43, 45]
  | _ => [42, 47, 37]
def sxl (x : Int32) : List Int32 → Nat → Option Nat
  | [], _ => none
  | c :: r, k => if x = c then some k else sxl x r (k + 1)
def sx (n : Nat) (B : Nat → Int32) (t s1 : Nat) : Option Nat := if t < n then sxl (B t) (sgs s1) 0 else none
set_option maxRecDepth 100000 in
theorem byt_f : ∀ k : Fin 256, (((Int32.ofNat k.val).toUInt32 % 65536).toInt32 = Int32.ofNat k.val) ∧ (∀ c ∈ ([60, 62, 61, 43, 45, 42, 47, 37] : List Int32), (c = (Int32.ofNat k.val).toInt8.toInt32 ↔ Int32.ofNat k.val = c)) := by decide
theorem ixc {sh : List gb_Sh} {g : gb_G} {s1 : Nat} {x z : Int32} (hl : gb_sl.getD s1 0 < 100) : ∀ (l : List Int32) (i F : Nat), i + l.length = gb_sl.getD s1 0 → (∀ j, j < l.length → sbt s1 (i + j) = l.getD j 0) → (∀ c ∈ l, c = z ↔ x = c) → f_J1_indexOfChar_4cfef_7 sh s1 (F + l.length + 1) g (Int32.ofNat (gb_sl.getD s1 0)) z (Int32.ofNat i) = some (g, match sxl x l i with | none => -1 | some k => Int32.ofNat k) := by
  intro l
  induction l with
  | nil =>
    intro i F h1 h2 h3
    rw [List.length_nil] at h1
    rw [f_J1_indexOfChar_4cfef_7, if_pos (by rw [o_le (by omega) (by omega)]; omega)]; rfl
  | cons c r ih =>
    intro i F h1 h2 h3
    rw [List.length_cons] at h1
    have e0 := h2 0 (by rw [List.length_cons]; omega)
    rw [List.getD_cons_zero, Nat.add_zero] at e0
    have e0' : (gb_sb.getD s1 []).getD i 0 = c := e0
    rw [f_J1_indexOfChar_4cfef_7, if_neg (by rw [o_le (by omega) (by omega)]; omega), gb_ck_s (o_in (by omega) (by omega)), o_cl (by omega), e0', sxl]
    have k := h3 c (List.mem_cons_self ..)
    by_cases q : c = z
    · rw [if_pos q, if_pos (k.1 q)]
    · rw [if_neg q, if_neg (fun y => q (k.2 y)), o_succ]
      exact ih (i + 1) F (by omega) (fun j hj => by
        have := h2 (j + 1) (by rw [List.length_cons]; omega)
        rw [List.getD_cons_succ] at this
        rw [show i + 1 + j = i + (j + 1) by omega]; exact this) fun c' hc' => h3 c' (List.mem_cons_of_mem _ hc')
theorem max0 {sh : List gb_Sh} {g : gb_G} : f_J9_max_7cf53 sh g 0 0 = some (g, 0) := by
  unfold f_J9_max_7cf53
  rw [if_neg (by decide)]
/-- signIn() -/
theorem sI_c {sh : List gb_Sh} {n t s1 : Nat} {B : Nat → Int32} {g : gb_G} (hn : n ≤ 400) (hB : ∀ j, j < n → im 0 255 (B j)) (hs : 8 ≤ s1 ∧ s1 ≤ 10) (h : cS g n B t) : f_X9_signIn sh g s1 = some (g, match sx n B t s1 with | none => -1 | some k => Int32.ofNat k) := by
  have hh := h
  obtain ⟨hT, ht, h2, h3, h4⟩ := h
  unfold f_X9_signIn f_X9_ended
  rw [h2, hT.1, sx]
  by_cases q : t < n
  · rw [if_pos (by rw [o_lt (by omega) (by omega)]; exact q), bf, if_pos q]
    simp only []
    rw [h2, bA_t hn hT q, gb_bd_s]
    obtain ⟨k, hk, e⟩ := o_of (n := 256) (x := B t) (hB t q)
    obtain ⟨f1, f2⟩ := byt_f ⟨k, hk⟩
    simp only [] at f1 f2
    have hs3 : s1 = 8 ∨ s1 = 9 ∨ s1 = 10 := by omega
    have hl := sl_b ⟨s1, by omega⟩
    simp only [] at hl
    have a1 : gb_sl.getD s1 0 = (sgs s1).length ∧ (sgs s1).length ≤ 3 ∧ 0 < (sgs s1).length ∧ (∀ j, j < (sgs s1).length → sbt s1 (0 + j) = (sgs s1).getD j 0) ∧ ∀ c ∈ sgs s1, c ∈ ([60, 62, 61, 43, 45, 42, 47, 37] : List Int32) := by
      rcases hs3 with rfl | rfl | rfl <;> decide
    obtain ⟨b1, b2, b2', b3, b4⟩ := a1
    unfold f_J0_indexOf_0f7a4 f_J0_indexOf_7cf53 f_J0_isLatin1_aae02 f_J1_indexOf_4cfef f_J1_canEncode_9a6ad f_J1_indexOfChar_4cfef
    rw [bt]
    simp only []
    rw [len_c (by omega), gb_bd_s, e, f1, if_neg (by rw [show (0 : Int32) = Int32.ofNat 0 from rfl, o_lt (by omega) (by omega)]; omega), if_neg (by rw [show (255 : Int32) = Int32.ofNat 255 from rfl, o_lt (by omega) (by omega)]; omega), bt]
    simp only []
    rw [max0, gb_bd_s]
    simp only []
    rw [min_c (by omega) (by omega), gb_bd_s, Nat.min_self]
    simp only []
    rw [if_pos (by rw [show (0 : Int32) = Int32.ofNat 0 from rfl, o_lt (by omega) (by omega)]; omega), show gb_N = 999999 - (sgs s1).length + (sgs s1).length + 1 by rw [show gb_N = 1000000 from rfl]; omega]
    have r := ixc (sh := sh) (g := g) (s1 := s1) (x := Int32.ofNat k) (z := (Int32.ofNat k).toInt8.toInt32) hl (sgs s1) 0 (999999 - (sgs s1).length) (by omega) b3 (fun c hc => f2 c (b4 c hc))
    rw [show (0 : Int32) = Int32.ofNat 0 from rfl, r]
    rfl
  · rw [if_neg (by rw [o_lt (by omega) (by omega)]; exact q), gb_bd_s, if_neg q]
    exact if_neg (show ¬ (1 : Int32) = 0 by decide)
