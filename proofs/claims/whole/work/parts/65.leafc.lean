/-! ===== what readers tell; a PART that is no bracket, in the class ===== -/
/-- where the FAULT is, or: the place behind, how many PARTS, what it tells, whether it asks for the figure -/
abbrev Ou : Type := Nat ⊕ (Nat × Nat × Den × Bool)
abbrev nW (ord : Bool) : Nat := if ord = true then 21 else 9
def CSt (n : Nat) (B : Nat → Int32) (ord : Bool) (g : gb_G) (s l c : Nat) (φ : Bool) : Prop := cS g n B s ∧ g.1 45 2 = (if ord = true then 1 else 0) ∧ g.1 45 3 = Int32.ofNat l ∧ g.1 46 0 = Int32.ofNat c ∧ g.1 46 7 = (if φ = true then 1 else 0) ∧ c ≤ s ∧ l ≤ 50
def KC (g r : gb_G) : Prop := r.1 46 3 = g.1 46 3 ∧ ∀ k, r.1 50 k = g.1 50 k
theorem KC.tr {g r q : gb_G} (a : KC g r) (b : KC r q) : KC g q := ⟨b.1.trans a.1, fun k => (b.2 k).trans (a.2 k)⟩
def lowC (g r : gb_G) (c : Nat) : Prop := ∀ i, i < c → r.1 47 i = g.1 47 i ∧ r.1 48 i = g.1 48 i
def CO1 (n : Nat) (B : Nat → Int32) (ord : Bool) (g : gb_G) (s l c : Nat) (φ0 : Bool) (R : Option (gb_G × Int32)) : Ou → Prop
  | .inl p => ∃ (r : gb_G) (c' : Nat), R = some (r, 0) ∧ cS r n B p ∧ r.1 46 0 = Int32.ofNat c' ∧ c' ≤ 400
  | .inr (s', l', D, φ) => ∃ (r : gb_G) (c' : Nat), R = some (r, 1) ∧ CSt n B ord r s' l' c' (φ0 || φ) ∧ c < c' ∧ c' + s ≤ c + s' ∧ lowC g r c ∧ XC (r.1 47) (r.1 48) (nW ord) c c' (l' - l) D ∧ KC g r
def CO (n : Nat) (B : Nat → Int32) (ord : Bool) (F : gb_G → Int32 → Option (gb_G × Int32)) (s l d : Nat) (o : Ou) : Prop := ∀ g c φ0, CSt n B ord g s l c φ0 → CO1 n B ord g s l c φ0 (F g (Int32.ofNat d)) o
theorem emit_c {sh : List gb_Sh} {g : gb_G} {c : Nat} {x y : Int32} (hl1 : gb_ln sh 47 = 400) (hl2 : gb_ln sh 48 = 400) (h : g.1 46 0 = Int32.ofNat c) (hc : c < 400) : ∃ o, f_X7_emit sh g 46 x y = some (o, Int32.ofNat c) ∧ o.1 46 0 = Int32.ofNat (c + 1) ∧ o.1 47 = upd (g.1 47) c x ∧ o.1 48 = upd (g.1 48) c y ∧ (∀ a k, ¬ (a = 46 ∧ k = 0) → ¬ a = 47 → ¬ a = 48 → o.1 a k = g.1 a k) := by
  unfold f_X7_emit
  rw [show (46 : Nat) + 1 = 47 from rfl, show (46 : Nat) + 2 = 48 from rfl, hl1, hl2, h, if_neg (by rw [o_le (by omega) (by omega)]; omega), if_neg (by rw [o_le (by omega) (by omega)]; omega), gb_ck_s (o_in hc (by omega)), o_cl (by omega), gb_let_s, gb_ck_s (o_in hc (by omega)), gb_let_s, gb_let_s, show (gb_pi (gb_pi g 47 c x) 48 c y).1 46 0 = Int32.ofNat c from (pi_n (by omega)).trans ((pi_n (by omega)).trans h), o_succ]
  refine ⟨_, rfl, pi_e, ?_, ?_, fun a k h1 h2 h3 => ?_⟩
  · rw [fn_n (by omega), fn_n (by omega), fn_e]
  · rw [fn_n (by omega), fn_e, fn_n (by omega)]
  · rw [pi_n (by omega), pi_n (by omega), pi_n (by omega)]
/-- also where there is no room -/
theorem emit_ct {sh : List gb_Sh} {g : gb_G} {c : Nat} {x y : Int32} (hl1 : gb_ln sh 47 = 400) (hl2 : gb_ln sh 48 = 400) (h : g.1 46 0 = Int32.ofNat c) (hc : c ≤ 400) : ∃ o c', f_X7_emit sh g 46 x y = some (o, Int32.ofNat c) ∧ o.1 46 0 = Int32.ofNat c' ∧ c' ≤ 400 ∧ (∀ a k, ¬ (a = 46 ∧ k = 0) → ¬ a = 47 → ¬ a = 48 → o.1 a k = g.1 a k) := by
  by_cases q : c < 400
  · obtain ⟨o, e, a, b, d, f⟩ := emit_c (sh := sh) (x := x) (y := y) hl1 hl2 h q
    exact ⟨o, c + 1, e, a, by omega, f⟩
  · refine ⟨g, c, ?_, h, hc, fun _ _ _ _ _ => rfl⟩
    unfold f_X7_emit
    rw [show (46 : Nat) + 1 = 47 from rfl, hl1, h, if_pos (by rw [o_le (by omega) (by omega)]; omega)]
theorem cS_fr {g g' : gb_G} {n t : Nat} {B : Nat → Int32} (h : cS g n B t) (e : ∀ a k, (a = 43 ∧ 1 ≤ k ∧ k ≤ 4) ∨ a = 44 → g'.1 a k = g.1 a k) : cS g' n B t := by
  obtain ⟨⟨h1, h1'⟩, h2, h3, h4, h5⟩ := h
  exact ⟨⟨(e _ _ (by omega)).trans h1, fun j hj => (e _ _ (by omega)).trans (h1' j hj)⟩, h2, (e _ _ (by omega)).trans h3, (e _ _ (by omega)).trans h4, (e _ _ (by omega)).trans h5⟩
theorem upe {f : Nat → Int32} {c : Nat} {x : Int32} : upd f c x c = x := by simp [upd]
theorem upn {f : Nat → Int32} {c i : Nat} {x : Int32} (h : ¬ i = c) : upd f c x i = f i := by simp [upd, h]
/-- a PART that is no bracket -/
def lfO (n : Nat) (B : Nat → Int32) (ord : Bool) (s l : Nat) : Ou :=
  if 50 ≤ l then .inl s
  else if kd n B s = 2 then (if NV n B s ≤ 1000 then .inr (tn n B s, l + 1, (fun _ => some (Int32.ofNat (NV n B s))), false) else .inl s)
  else match fW n B s (if ord = true then 11 else 12) with
    | none => .inl s
    | some k => if ord = true ∧ 5 ≤ k then (if kd n B (tn n B s) = 2 ∧ NV n B (tn n B s) ≤ 7 then .inr (tn n B (tn n B s), l + 1, (fun w => some (w (5 + 8 * (k - 5) + NV n B (tn n B s)))), false) else .inl (tn n B s))
      else .inr (tn n B s, l + 1, (fun w => some (w k)), ord && decide (k = 3))
theorem kd_n {n s : Nat} {B : Nat → Int32} (h : ¬ kd n B s = 0) : s < n := by
  unfold kd at h
  split at h
  · assumption
  · omega
theorem wds_l : ∀ i : Fin 9, (i.val < 7 → 0 < ((wds 11).getD i.val []).length) ∧ 0 < ((wds 12).getD i.val []).length := by decide
theorem fW_b {n s k : Nat} {B : Nat → Int32} {ord : Bool} (h : fW n B s (if ord = true then 11 else 12) = some k) (hs : s ≤ n) : s < n ∧ (if ord = true then k < 7 else k < 9) := by
  have b := fw_b _ _ h
  rw [Nat.sub_zero] at b
  cases ord with
  | true =>
    have h7 : k < 7 := Nat.lt_of_lt_of_le b.2.1 (by decide)
    exact ⟨(wqn hs ((wds_l ⟨k, by omega⟩).1 h7) b.2.2).1, h7⟩
  | false =>
    have h9 : k < 9 := Nat.lt_of_lt_of_le b.2.1 (by decide)
    exact ⟨(wqn hs (wds_l ⟨k, h9⟩).2 b.2.2).1, h9⟩
/-- the end of a leaf: one step of code more -/
theorem leaf_c {sh : List gb_Sh} {n s s' l c : Nat} {B : Nat → Int32} {ord φ0 φ1 φ : Bool} {g g1 : gb_G} {x y : Int32} {D : Den} (hn : n ≤ 400) (hl1 : gb_ln sh 47 = 400) (hl2 : gb_ln sh 48 = 400) (hC : CSt n B ord g s l c φ0) (hl : l < 50) (hs' : s < s') (h1 : cS g1 n B s') (e : ∀ a k, ¬ a = 43 → ¬ (a = 45 ∧ k = 3) → ¬ (a = 46 ∧ k = 7) → g1.1 a k = g.1 a k) (e3 : g1.1 45 3 = Int32.ofNat (l + 1)) (e7 : g1.1 46 7 = if φ1 = true then 1 else 0) (hX : ∀ O A : Nat → Int32, O c = x → A c = y → XC O A (nW ord) c (c + 1) 1 D) (hφ : φ1 = (φ0 || φ)) : CO1 n B ord g s l c φ0 (gb_bd (f_X7_emit sh g1 46 x y) (fun r => some (r.1, 1))) (.inr (s', l + 1, D, φ)) := by
  obtain ⟨⟨⟨hT1, hT2⟩, hs, k3, k4, k5⟩, c2, c3, c4, c5, c6, c7⟩ := hC
  have hsn := h1.2.1
  obtain ⟨o, eo, a1, a2, a3, a4⟩ := emit_c (sh := sh) (g := g1) (x := x) (y := y) hl1 hl2 ((e 46 0 (by omega) (by omega) (by omega)).trans c4) (by omega)
  refine ⟨o, c + 1, by rw [eo, gb_bd_s], ⟨cS_fr h1 fun a k q => a4 a k (by omega) (by omega) (by omega), (a4 _ _ (by omega) (by omega) (by omega)).trans ((e _ _ (by omega) (by omega) (by omega)).trans c2), (a4 _ _ (by omega) (by omega) (by omega)).trans e3, a1, (a4 _ _ (by omega) (by omega) (by omega)).trans (by rw [e7, hφ]), by omega, by omega⟩, by omega, by omega, fun i hi => ?_, ?_, ?_, fun k => ?_⟩
  · rw [a2, a3, upn (by omega), upn (by omega), e _ _ (by omega) (by omega) (by omega), e _ _ (by omega) (by omega) (by omega)]; exact ⟨rfl, rfl⟩
  · rw [show l + 1 - l = 1 by omega]
    exact hX _ _ (by rw [a2, upe]) (by rw [a3, upe])
  · rw [a4 _ _ (by omega) (by omega) (by omega), e _ _ (by omega) (by omega) (by omega)]
  · rw [a4 _ _ (by omega) (by omega) (by omega), e _ _ (by omega) (by omega) (by omega)]
noncomputable def lfC (sh : List gb_Sh) (g : gb_G) : Option (gb_G × Int32) := if (g.1 45 3) < 50 then (gb_let (gb_pi g 45 3 ((g.1 45 3) + 1)) (fun g3 => gb_bd (f_X9_isNumber sh g3) (fun r4 => if r4.2 = 0 then (gb_bd (f_X8_readWord sh r4.1) (fun r6 => gb_bo r6.2 (some (r6.1, r6.2)))) else (gb_bd (f_X8_readNumber sh r4.1) (fun r9 => gb_bo r9.2 (some (r9.1, r9.2))))))) else (some (g, 0))
theorem bo1 {α : Type} {a : Option α} {f : α → gb_G} : gb_bd (gb_bd a (fun r => some (f r, (1 : Int32)))) (fun r6 => gb_bo r6.2 (some (r6.1, r6.2))) = gb_bd a (fun r => some (f r, 1)) := by
  cases a with
  | none => rfl
  | some x => exact gb_bo_s (Or.inr rfl)
theorem or0 : ∀ φ : Bool, (if φ = true then (1 : Int32) else 0) ||| 0 = if φ = true then 1 else 0 := by decide
theorem or1 : ∀ φ : Bool, (if φ = true then (1 : Int32) else 0) ||| 1 = 1 := by decide
theorem w89 {sh : List gb_Sh} {n s s' l c k j : Nat} {B : Nat → Int32} {ord φ0 : Bool} {g g1 : gb_G} (hn : n ≤ 400) (hl1 : gb_ln sh 47 = 400) (hl2 : gb_ln sh 48 = 400) (hC : CSt n B ord g s l c φ0) (hl : l < 50) (hs' : s < s') (h1 : cS g1 n B s') (e : ∀ a k, ¬ a = 43 → ¬ (a = 45 ∧ k = 3) → g1.1 a k = g.1 a k) (e3 : g1.1 45 3 = Int32.ofNat (l + 1)) (hj : j < nW ord) : CO1 n B ord g s l c φ0 (gb_bd (f_X8_readWord_89 sh g1 (Int32.ofNat j)) (fun r6 => gb_bo r6.2 (some (r6.1, r6.2)))) (.inr (s', l + 1, (fun w => some (w j)), ord && decide (j = 3))) := by
  have hnw : nW ord < 100 := by unfold nW; split <;> omega
  have e2 : g1.1 45 2 = if ord = true then 1 else 0 := (e 45 2 (by omega) (by omega)).trans hC.2.1
  have e7 : g1.1 46 7 = if φ0 = true then 1 else 0 := (e 46 7 (by omega) (by omega)).trans hC.2.2.2.2.1
  have k114 : ∀ z : Int32, ∀ b : Bool, (b = true → z = 1) → (b = false → z = 0) → f_X8_readWord_114 sh g1 (Int32.ofNat j) z (g1.1 46 7) = gb_bd (f_X7_emit sh (gb_pi g1 46 7 (if (φ0 || b) = true then 1 else 0)) 46 1 (Int32.ofNat j)) (fun r => some (r.1, 1)) := by
    intro z b hz1 hz0
    have ev : g1.1 46 7 ||| z = if (φ0 || b) = true then 1 else 0 := by
      rw [e7]
      cases b with
      | true => rw [hz1 rfl, or1, Bool.or_true]; rfl
      | false => rw [hz0 rfl, or0, Bool.or_false]
    unfold f_X8_readWord_114
    rw [ev, gb_bo_s (by split <;> simp), gb_let_s]
  have fin : ∀ b : Bool, b = (ord && decide (j = 3)) → CO1 n B ord g s l c φ0 (gb_bd (gb_bd (f_X7_emit sh (gb_pi g1 46 7 (if (φ0 || b) = true then 1 else 0)) 46 1 (Int32.ofNat j)) (fun r => some (r.1, 1))) (fun r6 => gb_bo r6.2 (some (r6.1, r6.2)))) (.inr (s', l + 1, (fun w => some (w j)), ord && decide (j = 3))) := by
    intro b hb
    rw [bo1]
    exact leaf_c (g1 := gb_pi g1 46 7 (if (φ0 || b) = true then 1 else 0)) (φ1 := φ0 || b) hn hl1 hl2 hC hl hs' (cS_fr h1 fun a k q => pi_n (by omega)) (fun a k q1 q2 q3 => (pi_n q3).trans (e a k q1 q2)) ((pi_n (by omega)).trans e3) pi_e (fun O A ho hA => XC_word ho hA hj hnw) (by rw [hb])
  unfold f_X8_readWord_89
  rw [e2]
  cases ord with
  | false =>
    rw [if_neg (show ¬ false = true by decide), if_pos rfl, k114 0 false (fun z => nomatch z) (fun _ => rfl)]
    exact fin false rfl
  | true =>
    rw [if_pos rfl, if_neg (by decide)]
    by_cases q : j = 3
    · rw [if_pos (show Int32.ofNat j = 3 by rw [q]; rfl), k114 1 true (fun _ => rfl) (fun z => nomatch z)]
      exact fin true (by rw [q]; rfl)
    · have hj' : j < 21 := hj
      rw [if_neg (show ¬ Int32.ofNat j = 3 from fun z => q (o_inj (j := 3) (by omega) (by omega) z)), k114 0 false (fun z => nomatch z) (fun _ => rfl)]
      exact fin false (by rw [decide_eq_false q]; rfl)
/-- a PART that is no bracket, in the class -/
theorem lf_c {sh : List gb_Sh} {n s l d : Nat} {B : Nat → Int32} {ord : Bool} (hn : n ≤ 400) (hl1 : gb_ln sh 47 = 400) (hl2 : gb_ln sh 48 = 400) : CO n B ord (fun g _ => lfC sh g) s l d (lfO n B ord s l) := by
  intro g c φ0 hC
  have hC' := hC
  obtain ⟨hS, c2, c3, c4, c5, c6, c7⟩ := hC
  have hsn := hS.2.1
  show CO1 n B ord g s l c φ0 (lfC sh g) _
  unfold lfC lfO
  rw [c3]
  by_cases q : 50 ≤ l
  · rw [if_neg (by rw [show (50 : Int32) = Int32.ofNat 50 from rfl, o_lt (by omega) (by omega)]; omega), if_pos q]
    exact ⟨g, c, rfl, hS, c4, by omega⟩
  · rw [if_pos (by rw [show (50 : Int32) = Int32.ofNat 50 from rfl, o_lt (by omega) (by omega)]; omega), if_neg q, gb_let_s, o_succ]
    generalize hg1 : gb_pi g 45 3 (Int32.ofNat (l + 1)) = g1
    have e1 : ∀ a k, ¬ (a = 45 ∧ k = 3) → g1.1 a k = g.1 a k := fun a k h => by rw [← hg1]; exact pi_n h
    have e3 : g1.1 45 3 = Int32.ofNat (l + 1) := by rw [← hg1]; exact pi_e
    have hS1 : cS g1 n B s := cS_fr hS fun a k z => e1 a k (by omega)
    have bad : ∀ (r : gb_G) (p : Nat), cS r n B p → (∀ a k, ¬ a = 43 → ¬ (a = 45 ∧ k = 3) → r.1 a k = g.1 a k) → CO1 n B ord g s l c φ0 (gb_bd (some (r, (0 : Int32))) (fun r6 => gb_bo r6.2 (some (r6.1, r6.2)))) (.inl p) := fun r p h1 h2 => ⟨r, c, gb_bo_s (Or.inl rfl), h1, (h2 _ _ (by omega) (by omega)).trans c4, by omega⟩
    unfold f_X9_isNumber
    rw [hS1.2.2.2.2]
    have kb : kd n B s ≤ 2 := by
      unfold kd
      have := ky_2 (B s)
      split <;> omega
    by_cases k2 : kd n B s = 2
    · have hlt := (tn_b (B := B) hsn).2.2 (kd_n (show ¬ kd n B s = 0 by omega))
      rw [if_pos k2, k2, if_pos (show Int32.ofNat 2 = 2 from rfl), bt]
      simp only []
      unfold f_X8_readNumber
      rw [num_c hn hS1 k2, gb_bd_s]
      simp only []
      by_cases v : NV n B s ≤ 1000
      · rw [if_pos (by rw [show (1000 : Int32) = Int32.ofNat 1000 from rfl, o_le (by omega) (by omega)]; omega), if_pos v]
        obtain ⟨o, eo, p⟩ := step_c (sh := sh) hn hS1
        have F := w_X9_step eo
        rw [eo, gb_bd_s, bo1, Nat.min_eq_right (by omega)]
        exact leaf_c (φ1 := φ0) hn hl1 hl2 hC' (by omega) hlt p (fun a k q1 q2 q3 => (F a k (by omega)).1.trans (e1 a k (by omega))) ((F 45 3 (by omega)).1.trans e3) ((F 46 7 (by omega)).1.trans ((e1 _ _ (by omega)).trans c5)) (fun O A ho hA => XC_num ho hA) (Bool.or_false _).symm
      · rw [if_neg (by rw [show (1000 : Int32) = Int32.ofNat 1000 from rfl, o_le (by omega) (by omega)]; omega), if_neg v]
        exact bad g1 s hS1 fun a k _ q2 => e1 a k q2
    · rw [if_neg k2, if_neg (show ¬ Int32.ofNat (kd n B s) = 2 from fun z => k2 (o_inj (j := 2) (by omega) (by omega) z)), bf]
      simp only []
      unfold f_X8_readWord
      have hw18 : (if (g1.1 45 2) = 0 then (f_X8_readWord_18 sh g1 12) else (f_X8_readWord_18 sh g1 11)) = f_X8_readWord_18 sh g1 (if ord = true then 11 else 12) := by
        rw [e1 45 2 (by omega), c2]
        cases ord with
        | true => rw [if_pos rfl, if_neg (by decide), if_pos rfl]
        | false => rw [if_neg (show ¬ false = true by decide), if_pos rfl, if_neg (show ¬ false = true by decide)]
      rw [hw18]
      unfold f_X8_readWord_18
      rw [wrd_c hn (by split <;> omega) (by split <;> omega) hS1]
      cases hk : fW n B s (if ord = true then 11 else 12) with
      | none =>
        rw [gb_bd_s]
        simp only []
        rw [if_pos trivial]
        exact bad g1 s hS1 fun a k _ q2 => e1 a k q2
      | some k =>
        obtain ⟨hlt0, hk9⟩ := fW_b hk hsn
        have hk10 : k < 10 := by split at hk9 <;> omega
        have hlt := (tn_b (B := B) hsn).2.2 hlt0
        obtain ⟨o, eo, p⟩ := step_c (sh := sh) hn hS1
        have F := w_X9_step eo
        have F' : ∀ a k, ¬ a = 43 → ¬ (a = 45 ∧ k = 3) → o.1 a k = g.1 a k := fun a k q1 q2 => (F a k (by omega)).1.trans (e1 a k q2)
        have o3 : o.1 45 3 = Int32.ofNat (l + 1) := (F 45 3 (by omega)).1.trans e3
        rw [gb_bd_s]
        simp only []
        rw [if_neg (o_ne1 (by omega)), eo, gb_bd_s, F' 45 2 (by omega) (by omega), c2]
        by_cases q5 : ord = true ∧ 5 ≤ k
        · obtain ⟨q5, q6⟩ := q5
          subst q5
          have h7 : k < 7 := hk9
          rw [if_pos (show true = true from rfl), if_neg (show ¬ (1 : Int32) = 0 by decide), if_pos (show true = true ∧ 5 ≤ k from ⟨rfl, q6⟩), if_neg (show ¬ Int32.ofNat k < 5 by rw [show (5 : Int32) = Int32.ofNat 5 from rfl, o_lt (by omega) (by omega)]; omega)]
          by_cases v : kd n B (tn n B s) = 2 ∧ NV n B (tn n B s) ≤ 7
          · rw [if_pos v, num_c hn p v.1, gb_bd_s]
            simp only []
            rw [Nat.min_eq_right (by omega), within_t (lo := 0) (hi := 7) (by rw [im, o_int (by omega)]; omega) rfl rfl, bt]
            simp only []
            obtain ⟨o2, eo2, p2⟩ := step_c (sh := sh) hn p
            have G := w_X9_step eo2
            have hlt2 := (tn_b (B := B) p.2.1).2.2 (kd_n (show ¬ kd n B (tn n B s) = 0 by omega))
            rw [eo2, gb_bd_s]
            unfold f_X8_readWord_86
            by_cases k5 : k = 5
            · subst k5
              rw [if_pos (show Int32.ofNat 5 = 5 from rfl), show (5 : Int32) = Int32.ofNat 5 from rfl, o_add]
              have r := w89 (sh := sh) (s' := tn n B (tn n B s)) (j := 5 + NV n B (tn n B s)) (k := 0) hn hl1 hl2 hC' (by omega) (by omega) p2 (fun a k q1 q2 => (G a k (by omega)).1.trans (F' a k q1 q2)) ((G 45 3 (by omega)).1.trans o3) (show _ < 21 by omega)
              rw [decide_eq_false (by omega)] at r
              exact r
            · have k6 : k = 6 := by omega
              subst k6
              rw [if_neg (show ¬ Int32.ofNat 6 = 5 by decide), show (13 : Int32) = Int32.ofNat 13 from rfl, o_add]
              have r := w89 (sh := sh) (s' := tn n B (tn n B s)) (j := 13 + NV n B (tn n B s)) (k := 0) hn hl1 hl2 hC' (by omega) (by omega) p2 (fun a k q1 q2 => (G a k (by omega)).1.trans (F' a k q1 q2)) ((G 45 3 (by omega)).1.trans o3) (show _ < 21 by omega)
              rw [decide_eq_false (by omega)] at r
              exact r
          · rw [if_neg v]
            have nb : ∃ z : Int32, f_X9_number sh o = some (o, z) ∧ ¬ im 0 7 z := by
              by_cases v1 : kd n B (tn n B s) = 2
              · refine ⟨_, num_c hn p v1, ?_⟩
                rw [im, o_int (by omega)]
                have : ¬ NV n B (tn n B s) ≤ 7 := fun z => v ⟨v1, z⟩
                omega
              · exact ⟨_, num_cn p v1, by rw [im]; decide⟩
            obtain ⟨z, ez, hz⟩ := nb
            rw [ez, gb_bd_s]
            simp only []
            rw [within_f hz rfl rfl, bf]
            exact bad o _ p F'
        · rw [if_neg q5]
          have hj : k < nW ord := by
            unfold nW
            split at hk9
            · next z => rw [if_pos z]; omega
            · next z => rw [if_neg z]; omega
          have r := w89 (sh := sh) (s' := tn n B s) (j := k) (k := 0) hn hl1 hl2 hC' (by omega) hlt p F' o3 hj
          cases ord with
          | false => rw [if_neg (show ¬ false = true by decide), if_pos rfl]; exact r
          | true =>
            have : ¬ 5 ≤ k := fun z => q5 ⟨rfl, z⟩
            rw [if_pos rfl, if_neg (by decide), if_pos (by rw [show (5 : Int32) = Int32.ofNat 5 from rfl, o_lt (by omega) (by omega)]; omega)]; exact r
