/-! ===== words: the reference's ===== -/
theorem wqi {e : Nat} {B : Nat → Int32} : ∀ (w : List Int32) (a : Nat), a ≤ e → (wq e B a w = true ↔ a + w.length = e ∧ ∀ j, j < w.length → B (a + j) = w.getD j 0) := by
  intro w
  induction w with
  | nil =>
    intro a ha
    rw [wq, List.length_nil]
    exact ⟨fun z => ⟨by simpa using z, fun j hj => by omega⟩, fun z => by simpa using z.1⟩
  | cons c r ih =>
    intro a ha
    rw [wq, Bool.and_eq_true, Bool.and_eq_true, decide_eq_true_eq, decide_eq_true_eq, List.length_cons]
    constructor
    · intro ⟨⟨z1, z2⟩, z3⟩
      obtain ⟨i1, i2⟩ := (ih (a + 1) (by omega)).1 z3
      refine ⟨by omega, fun j hj => ?_⟩
      cases j with
      | zero => rw [List.getD_cons_zero]; exact z2
      | succ j => rw [List.getD_cons_succ, show a + (j + 1) = a + 1 + j by omega]; exact i2 j (by omega)
    · intro ⟨z1, z2⟩
      refine ⟨⟨by omega, ?_⟩, (ih (a + 1) (by omega)).2 ⟨by omega, fun j hj => ?_⟩⟩
      · have := z2 0 (by omega); rw [List.getD_cons_zero] at this; exact this
      · have := z2 (j + 1) (by omega); rw [List.getD_cons_succ, show a + (j + 1) = a + 1 + j by omega] at this; exact this
theorem wq_inj {e : Nat} {B : Nat → Int32} : ∀ (w v : List Int32) (a : Nat), wq e B a w = true → wq e B a v = true → w = v := by
  intro w
  induction w with
  | nil =>
    intro v a h1 h2
    cases v with
    | nil => rfl
    | cons c r =>
      rw [wq] at h1
      rw [wq] at h2
      rw [Bool.and_eq_true, Bool.and_eq_true, decide_eq_true_eq] at h2
      have : a = e := by simpa using h1
      omega
  | cons c r ih =>
    intro v a h1 h2
    cases v with
    | nil =>
      rw [wq] at h1
      rw [wq] at h2
      rw [Bool.and_eq_true, Bool.and_eq_true, decide_eq_true_eq] at h1
      have : a = e := by simpa using h2
      omega
    | cons c' r' =>
      rw [wq, Bool.and_eq_true, Bool.and_eq_true, decide_eq_true_eq, decide_eq_true_eq] at h1 h2
      rw [← h1.1.2, h2.1.2, ih r' (a + 1) h1.2 h2.2]
theorem rnn_k {n k : Nat} {B : Nat → Int32} : ∀ f s j, s ≤ j → j < rnn n B k f s → ky (B j) = k ∧ j < n := by
  intro f
  induction f with
  | zero => intro s j h1 h2; rw [rnn] at h2; omega
  | succ f ih =>
    intro s j h1 h2
    rw [rnn] at h2
    split at h2
    · next q =>
      by_cases e : j = s
      · rw [e]; exact ⟨q.2, q.1⟩
      · exact ih (s + 1) j (by omega) h2
    · omega
theorem wh_e {n t : Nat} {B : Nat → Int32} (hn : n ≤ 400) : ∀ f s, n ≤ s + f → s ≤ n → t ≤ s → (∀ j, j < s - t → ky (B (t + j)) = 1) → wh n B t f s (if s - t ≤ 10 then Int64.ofNat (hB B t (s - t)) else -1) = if rnn n B 1 f s - t ≤ 10 then Int64.ofNat (hB B t (rnn n B 1 f s - t)) else -1 := by
  intro f
  induction f with
  | zero => intro s _ _ _ _; rfl
  | succ f ih =>
    intro s h1 h2 h3 h4
    rw [wh, rnn]
    by_cases q : s < n ∧ ky (B s) = 1
    · rw [if_pos q, if_pos q]
      have h5 : ∀ j, j < s + 1 - t → ky (B (t + j)) = 1 := fun j hj => by
        by_cases z : j < s - t
        · exact h4 j z
        · rw [show t + j = s by omega]; exact q.2
      rw [← ih (s + 1) (by omega) (by omega) (by omega) h5]
      congr 1
      by_cases k : 10 ≤ s - t
      · rw [if_pos k, if_neg (by omega)]
      · obtain ⟨d, d1, d2, d3, d4⟩ := sm_e q.2
        have hb := hB_b (s - t) h4
        have hp : (32 : Nat) ^ (s - t) ≤ 32 ^ 10 := Nat.pow_le_pow_right (by omega) (by omega)
        rw [if_neg k, if_pos (by omega), if_pos (by omega), show s + 1 - t = (s - t) + 1 by omega, hB, show t + (s - t) = s by omega, d4, d3, n64 (by omega), show (32 : Int64) = Int64.ofNat 32 from rfl, show (96 : Int64) = Int64.ofNat 96 from rfl, m64, a64, s64 (by omega)]
        congr 1
    · rw [if_neg q, if_neg q]
def okW (w : List Int32) : Bool := okh w.reverse && decide (0 < w.length) && decide (w.length ≤ 10)
theorem okh_k : ∀ (w : List Int32), okh w = true → ∀ c ∈ w, ky c = 1 := by
  intro w
  induction w with
  | nil => intro _ c hc; cases hc
  | cons a r ih =>
    intro h c hc
    unfold okh at h
    rw [Bool.and_eq_true, Bool.and_eq_true, decide_eq_true_eq, decide_eq_true_eq] at h
    rcases List.mem_cons.1 hc with e | e
    · rw [e]; unfold ky; rw [if_pos (show 97 ≤ a ∧ a ≤ 122 from h.1)]
    · exact ih h.2 c e
theorem gd_rev {w : List Int32} {j : Nat} (h : j < w.length) : w.reverse.getD (w.length - 1 - j) 0 = w.getD j 0 := by
  rw [List.getD_eq_getElem?_getD, List.getD_eq_getElem?_getD, List.getElem?_reverse (by omega), show w.length - 1 - (w.length - 1 - j) = j by omega]
/-- isWord() -/
theorem iw_m {sh : List gb_Sh} {n t h : Nat} {B : Nat → Int32} {g : gb_G} {w : List Int32} (hn : n ≤ 400) (hm : mS g n B t) (hw1 : okW w = true) (hw2 : hw w.reverse = h) (hh : h < 1125899906842624) : f_X11_isWord sh g (Int64.ofNat h) = some (g, if wq (stp n B t) B t w = true then 1 else 0) := by
  obtain ⟨hT, ht, h2, h3, h4, h5⟩ := hm
  have hb := stp_b (B := B) ht
  unfold okW at hw1
  rw [Bool.and_eq_true, Bool.and_eq_true, decide_eq_true_eq, decide_eq_true_eq] at hw1
  obtain ⟨⟨w1, w2⟩, w3⟩ := hw1
  unfold f_X11_isWord
  rw [h4, h5]
  have no : ¬ (t < n ∧ ky (B t) = 1) → ¬ wq (stp n B t) B t w = true := by
    intro q z
    obtain ⟨z1, z2⟩ := (wqi w t hb.1).1 z
    have z3 := z2 0 w2
    refine q ⟨by omega, ?_⟩
    rw [Nat.add_zero] at z3
    rw [z3]
    refine okh_k _ w1 _ ?_
    rw [List.mem_reverse, List.getD_eq_getElem?_getD, List.getElem?_eq_getElem w2]
    exact List.getElem_mem _
  by_cases q : t < n ∧ ky (B t) = 1
  · rw [so, if_pos q.1, if_neg (show ¬ ky (B t) = 0 by omega), q.2, if_pos (show Int32.ofNat 1 = 1 from rfl), wo, if_pos q.1, if_neg (show ¬ ky (B t) = 0 by omega), if_pos q.2]
    have e1 : rnn n B 1 401 t = stp n B t := by rw [stp, if_pos q.1, if_neg (by omega), q.2, show rnn n B 1 401 t = _ from if_pos q]
    have e2 := wh_e (t := t) hn 401 t (by omega) ht (Nat.le_refl _) (B := B) (fun j hj => by omega)
    rw [if_pos (by omega), e1] at e2
    have e3 : hB B t (t - t) = 0 := by rw [Nat.sub_self]; rfl
    rw [e3] at e2
    have ek : ∀ j, j < stp n B t - t → ky (B (t + j)) = 1 := fun j hj => (rnn_k (n := n) (B := B) 401 t (t + j) (by omega) (by rw [e1]; omega)).1
    rw [show (0 : Int64) = Int64.ofNat 0 from rfl, e2]
    by_cases k : stp n B t - t ≤ 10
    · rw [if_pos k]
      have hb2 := hB_b _ ek
      have hp : (32 : Nat) ^ (stp n B t - t) ≤ 32 ^ 10 := Nat.pow_le_pow_right (by omega) k
      have key : hB B t (stp n B t - t) = h ↔ wq (stp n B t) B t w = true := by
        rw [← hw2, hB_i w.reverse _ w1 ek, wqi w t hb.1, List.length_reverse]
        constructor
        · intro ⟨z1, z2⟩
          refine ⟨by omega, fun j hj => ?_⟩
          rw [z2 j (by omega), gd_rev hj]
        · intro ⟨z1, z2⟩
          refine ⟨by omega, fun j hj => ?_⟩
          rw [z2 j (by omega), gd_rev (by omega)]
      by_cases z : hB B t (stp n B t - t) = h
      · rw [if_pos ((lg_cmp_eq _ _).2 (by rw [z])), if_pos (key.1 z)]
      · rw [if_neg (fun y => z ?_), if_neg (fun y => z (key.2 y))]
        have y2 := congrArg Int64.toInt ((lg_cmp_eq _ _).1 y)
        rw [l_int (by omega), l_int (by omega)] at y2
        omega
    · rw [if_neg k, if_neg (fun y => ?_), if_neg (fun z => k (by have := ((wqi w t hb.1).1 z).1; omega))]
      have y2 := congrArg Int64.toInt ((lg_cmp_eq _ _).1 y)
      rw [l_int (by omega), show (-1 : Int64).toInt = -1 from rfl] at y2
      omega
  · rw [if_neg (no q), if_neg]
    intro z
    have := ky_2 (B t)
    have sb : so n B t < 2147483648 := by
      unfold so
      split
      · split <;> omega
      · omega
    have z2 := o_inj (j := 1) sb (by omega) z
    unfold so at z2
    split at z2
    · next q1 =>
      split at z2
      · omega
      · exact q ⟨q1, z2⟩
    · omega
/-- a loop that looks which of the words it is -/
theorem fw_no {e : Nat} {B : Nat → Int32} {t : Nat} : ∀ (ws : List (List Int32)) (k : Nat), (∀ w ∈ ws, ¬ wq e B t w = true) → fw e B t ws k = none := by
  intro ws
  induction ws with
  | nil => intro k _; rfl
  | cons w ws ih => intro k h; rw [fw, if_neg (h w (List.mem_cons_self ..)), ih _ fun v hv => h v (List.mem_cons_of_mem _ hv)]
theorem scn {α : Type} {g : gb_G} {e t : Nat} {B : Nat → Int32} {val : Nat → Int32} (L : Nat → gb_G → Int32 → Int32 → Option α) : ∀ (us : List (List Int32)) (k F : Nat) (y : Int32), us.Nodup → (∀ F y i, i < us.length → L (F + 1) g y (Int32.ofNat (k + i)) = L F g (if wq e B t (us.getD i []) = true then val (k + i) else y) (Int32.ofNat (k + i + 1))) → L (F + us.length) g y (Int32.ofNat k) = L F g (match fw e B t us k with | none => y | some j => val j) (Int32.ofNat (k + us.length)) := by
  intro us
  induction us with
  | nil => intro k F y _ _; rfl
  | cons w us ih =>
    intro k F y hd st
    rw [List.nodup_cons] at hd
    have s0 := st (F + us.length) y 0 (by rw [List.length_cons]; omega)
    simp only [Nat.add_zero, List.getD_cons_zero] at s0
    rw [List.length_cons, show F + (us.length + 1) = F + us.length + 1 by omega, s0, ih (k + 1) F _ hd.2 (fun F y i hi => by
      have := st F y (i + 1) (by rw [List.length_cons]; omega)
      rw [List.getD_cons_succ, show k + (i + 1) = k + 1 + i by omega] at this
      exact this), fw, show k + 1 + us.length = k + (us.length + 1) by omega]
    by_cases q : wq e B t w = true
    · rw [if_pos q, if_pos q, fw_no us (k + 1) (fun v hv z => hd.1 (by rw [wq_inj w v t q z]; exact hv))]
    · rw [if_neg q, if_neg q]
def hs12 : List Nat := [245220, 67173, 14839, 777297172, 241700, 12619123, 17171557, 14137992, 441828]
def hs11 : List Nat := [14137992, 146885, 404362868, 211015237, 12921972167, 14839, 777297172]
def hs1 : List Nat := [14145715, 117095059, 7734419, 67155]
def hs0 : List Nat := [394347, 206276, 24290536, 525939]
theorem hs12_ok : ∀ i : Fin 9, okW ((wds 12).getD i.val []) = true ∧ hw ((wds 12).getD i.val []).reverse = hs12.getD i.val 0 ∧ hs12.getD i.val 0 < 1125899906842624 := by decide
theorem hs11_ok : ∀ i : Fin 7, okW ((wds 11).getD i.val []) = true ∧ hw ((wds 11).getD i.val []).reverse = hs11.getD i.val 0 ∧ hs11.getD i.val 0 < 1125899906842624 := by decide
theorem hs1_ok : ∀ i : Fin 4, okW ((wds 1).getD i.val []) = true ∧ hw ((wds 1).getD i.val []).reverse = hs1.getD i.val 0 ∧ hs1.getD i.val 0 < 1125899906842624 := by decide
theorem hs0_ok : ∀ i : Fin 4, okW ((wds 0).getD i.val []) = true ∧ hw ((wds 0).getD i.val []).reverse = hs0.getD i.val 0 ∧ hs0.getD i.val 0 < 1125899906842624 := by decide
