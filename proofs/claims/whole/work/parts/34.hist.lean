/-! ===== what can be undone, as both sides hold it; what changes of a basket ===== -/
/-- how many; of each kind, GOOD, how it was ahead -/
abbrev ms_H : Type := Nat × (Nat → Nat) × (Nat → Nat) × (Nat → Nat → Int32)
def cvH (g : gb_G) (b : Nat) (H : ms_H) (n : Nat) : Prop := g.1 b 0 = Int32.ofNat H.1 ∧ ∀ k, k < H.1 → g.1 (b + 1) k = Int32.ofNat (H.2.1 k) ∧ (H.2.1 k < 3 → g.1 (b + 2) k = Int32.ofNat (H.2.2.1 k)) ∧ (H.2.1 k = 2 → g.1 (b + 3) k = H.2.2.2 k (19 + H.2.2.1 k)) ∧ (H.2.1 k = 3 → ∀ i, i < n → g.1 (b + 4) (8 * k + i) = H.2.2.2 k (3 + i))
def mvH (g : gb_G) (H : ms_H) (n : Nat) : Prop := g.1 77 8 = Int32.ofNat H.1 ∧ ∀ k, k < H.1 → g.1 83 k = Int32.ofNat (H.2.1 k) ∧ ∀ i, i < 27 → ms_rl n i → g.1 82 (27 * k + i) = H.2.2.2 k i
def wfh (K j n : Nat) (s s' : Nat → Int32) : Prop := K ≤ 3 ∧ (K < 3 → j < n) ∧ (∀ i, ms_rl n i → ¬ (K ≤ 1 ∧ i = 11 + j) → ¬ (K = 2 ∧ i = 19 + j) → ¬ (K = 3 ∧ (i = 0 ∨ (3 ≤ i ∧ i < 11))) → s i = s' i) ∧ (K = 0 → s (11 + j) = 0 ∧ s' (11 + j) = 1) ∧ (K = 1 → s (11 + j) = 1 ∧ s' (11 + j) = 0) ∧ (K = 2 → im 0 99 (s (19 + j))) ∧ (K = 3 → im 0 998 (s 0) ∧ s' 0 = s 0 + 1 ∧ ∀ i, i < n → im 1 12 (s (3 + i)))
def hS (H : ms_H) (c : Nat → Int32) (k : Nat) : Nat → Int32 := if k < H.1 then H.2.2.2 k else c
def wfH (H : ms_H) (n : Nat) (c : Nat → Int32) : Prop := H.1 ≤ 16 ∧ ∀ k, k < H.1 → wfh (H.2.1 k) (H.2.2.1 k) n (hS H c k) (hS H c (k + 1))
/-- what changes of a basket: TERMS, NOW, LACKING, WEIGHT -/
def cur (β : ms_B) (i : Nat) : Int32 := if i < 3 then bTe β i else if i < 11 then bT β (i - 3) 1 else if i < 19 then bT β (i - 11) 5 else bT β (i - 19) 2
def bCur (β : ms_B) (s : Nat → Int32) : ms_B := (bN β, (fun a b => if b = 1 then s (3 + a) else if b = 5 then s (11 + a) else if b = 2 then s (19 + a) else bT β a b), bP β, bO β, bH β, bHe β, s, bL β, bF β)
def wfC (n : Nat) (s : Nat → Int32) : Prop := (∀ i, i < n → im 1 12 (s (3 + i)) ∧ im 0 1 (s (11 + i)) ∧ im 0 99 (s (19 + i))) ∧ im 0 999 (s 0) ∧ im 0 10 (s 1) ∧ im 0 9 (s 2)
theorem cur_te {β : ms_B} {i : Nat} (h : i < 3) : cur β i = bTe β i := if_pos h
theorem cur_now {β : ms_B} {i : Nat} (h : i < 8) : cur β (3 + i) = bT β i 1 := by
  unfold cur
  rw [if_neg (by omega), if_pos (by omega), show 3 + i - 3 = i by omega]
theorem cur_la {β : ms_B} {i : Nat} (h : i < 8) : cur β (11 + i) = bT β i 5 := by
  unfold cur
  rw [if_neg (by omega), if_neg (by omega), if_pos (by omega), show 11 + i - 11 = i by omega]
theorem cur_we {β : ms_B} {i : Nat} : cur β (19 + i) = bT β i 2 := by
  unfold cur
  rw [if_neg (by omega), if_neg (by omega), if_neg (by omega), show 19 + i - 19 = i by omega]
theorem cur_cur {β : ms_B} {s : Nat → Int32} {i : Nat} : cur (bCur β s) i = s i := by
  unfold cur
  by_cases h1 : i < 3
  · rw [if_pos h1]; rfl
  · rw [if_neg h1]
    by_cases h2 : i < 11
    · rw [if_pos h2]; show s (3 + (i - 3)) = s i; congr 1; omega
    · rw [if_neg h2]
      by_cases h3 : i < 19
      · rw [if_pos h3]; show s (11 + (i - 11)) = s i; congr 1; omega
      · rw [if_neg h3]; show s (19 + (i - 19)) = s i; congr 1; omega
theorem wfC_cur {β : ms_B} (hw : wfB β) : wfC (bN β) (cur β) := by
  obtain ⟨w0, w1, w2, w3, w4, w5, w6, w7, w8, w9, w10, w11, w12⟩ := hw
  refine ⟨fun i hi => ?_, w10, w11, w12⟩
  have := w6 i hi
  rw [cur_now (by omega), cur_la (by omega), cur_we]
  exact ⟨this.2.1, this.2.2.2.2.2.1, this.2.2.1⟩
theorem wfB_cur {β : ms_B} {s : Nat → Int32} (hw : wfB β) (hs : wfC (bN β) s) : wfB (bCur β s) := by
  obtain ⟨w0, w1, w2, w3, w4, w5, w6, w7, w8, w9, w10, w11, w12⟩ := hw
  obtain ⟨s1, s2, s3, s4⟩ := hs
  refine ⟨w0, w1, w2, w3, w4, w5, fun i hi => ?_, w7, w8, w9, s2, s3, s4⟩
  obtain ⟨a0, a1, a2, a3, a4, a5, a6⟩ := w6 i hi
  obtain ⟨b1, b2, b3⟩ := s1 i hi
  exact ⟨a0, b1, b3, a3, a4, b2, a6⟩
theorem wfh_c {K j n : Nat} {s s' u u' : Nat → Int32} (hn : n ≤ 8) (h : wfh K j n s s') (e : ∀ i, ms_rl n i → u i = s i) (e' : ∀ i, ms_rl n i → u' i = s' i) : wfh K j n u u' := by
  obtain ⟨h1, h2, h3, h4, h5, h6, h7⟩ := h
  refine ⟨h1, h2, fun i hi q1 q2 q3 => ?_, fun q => ?_, fun q => ?_, fun q => ?_, fun q => ?_⟩
  · rw [e i hi, e' i hi]; exact h3 i hi q1 q2 q3
  · have := h2 (by omega)
    rw [e _ (by unfold ms_rl; omega), e' _ (by unfold ms_rl; omega)]; exact h4 q
  · have := h2 (by omega)
    rw [e _ (by unfold ms_rl; omega), e' _ (by unfold ms_rl; omega)]; exact h5 q
  · have := h2 (by omega)
    rw [e _ (by unfold ms_rl; omega)]; exact h6 q
  · obtain ⟨a, b, c⟩ := h7 q
    rw [e _ (by unfold ms_rl; omega), e' _ (by unfold ms_rl; omega)]
    exact ⟨a, b, fun i hi => by rw [e _ (by unfold ms_rl; omega)]; exact c i hi⟩
theorem wfH_c {H : ms_H} {n : Nat} {c c' : Nat → Int32} (hn : n ≤ 8) (h : wfH H n c) (e : ∀ i, ms_rl n i → c' i = c i) : wfH H n c' := by
  have z : ∀ k i, ms_rl n i → hS H c' k i = hS H c k i := fun k i hi => by
    unfold hS
    by_cases q : k < H.1
    · rw [if_pos q, if_pos q]
    · rw [if_neg q, if_neg q]; exact e i hi
  exact ⟨h.1, fun k hk => wfh_c hn (h.2 k hk) (fun i hi => z k i hi) (fun i hi => z (k + 1) i hi)⟩
theorem mv_cur {rho : Nat → Int32} {β : ms_B} (hw : wfB β) (hm : mvB rho β) {i : Nat} (hi : ms_rl (bN β) i) : rho (5 + i) = cur β i := by
  have hn := hw.1
  unfold ms_rl at hi
  rcases hi with hi | hi | hi | hi
  · rw [cur_te hi]; exact hm.2.2.2.2.2.2.1 i hi
  · obtain ⟨j, rfl⟩ : ∃ j, i = 3 + j := ⟨i - 3, by omega⟩
    rw [cur_now (by omega), show 5 + (3 + j) = 8 + j by omega]; exact (hm.2.1 j (by omega)).2.1
  · obtain ⟨j, rfl⟩ : ∃ j, i = 11 + j := ⟨i - 11, by omega⟩
    rw [cur_la (by omega), show 5 + (11 + j) = 16 + j by omega]; exact (hm.2.1 j (by omega)).2.2.2.2.2.1
  · obtain ⟨j, rfl⟩ : ∃ j, i = 19 + j := ⟨i - 19, by omega⟩
    rw [cur_we, show 5 + (19 + j) = 24 + j by omega]; exact (hm.2.1 j (by omega)).2.2.1
theorem U_of {g : gb_G} {β : ms_B} (hw : wfB β) (hm : mvB (g.1 79) β) (hU : iU g (bN β)) : ∃ H, cvH g 33 H (bN β) ∧ mvH g H (bN β) ∧ wfH H (bN β) (cur β) := by
  have hn := hw.1
  obtain ⟨N, hN, u1, u2, u3⟩ := hU
  have : ∀ k, ∃ q : Nat × Nat, k < N → q.1 ≤ 3 ∧ g.1 34 k = Int32.ofNat q.1 ∧ g.1 83 k = Int32.ofNat q.1 ∧ (q.1 < 3 → q.2 < bN β ∧ g.1 35 k = Int32.ofNat q.2) ∧
      (∀ i, ms_rl (bN β) i → ¬ (q.1 ≤ 1 ∧ i = 11 + q.2) → ¬ (q.1 = 2 ∧ i = 19 + q.2) → ¬ (q.1 = 3 ∧ (i = 0 ∨ (3 ≤ i ∧ i < 11))) → ms_Sn g N k i = ms_Sn g N (k + 1) i) ∧
      (q.1 = 0 → ms_Sn g N k (11 + q.2) = 0 ∧ ms_Sn g N (k + 1) (11 + q.2) = 1) ∧ (q.1 = 1 → ms_Sn g N k (11 + q.2) = 1 ∧ ms_Sn g N (k + 1) (11 + q.2) = 0) ∧
      (q.1 = 2 → ms_Sn g N k (19 + q.2) = g.1 36 k ∧ im 0 99 (g.1 36 k)) ∧
      (q.1 = 3 → im 0 998 (ms_Sn g N k 0) ∧ ms_Sn g N (k + 1) 0 = ms_Sn g N k 0 + 1 ∧ ∀ i, i < bN β → ms_Sn g N k (3 + i) = g.1 37 (8 * k + i) ∧ im 1 12 (g.1 37 (8 * k + i))) := by
    intro k
    by_cases hk : k < N
    · obtain ⟨K, j, h⟩ := u3 k hk
      exact ⟨(K, j), fun _ => h⟩
    · exact ⟨(0, 0), fun q => absurd q hk⟩
  obtain ⟨f, hf⟩ := Classical.axiomOfChoice this
  refine ⟨(N, (fun k => (f k).1), (fun k => (f k).2), fun k i => g.1 82 (27 * k + i)), ⟨u1, fun k hk => ?_⟩, ⟨u2, fun k hk => ?_⟩, hN, fun k hk => ?_⟩
  · have hk' : k < N := hk
    obtain ⟨a1, a2, a3, a4, a5, a6, a7, a8, a9⟩ := hf k hk
    refine ⟨a2, fun q => (a4 q).2, fun q => ?_, fun q i hi => ?_⟩
    · rw [← (a8 q).1]; unfold ms_Sn; rw [if_pos hk']
    · rw [← ((a9 q).2.2 i hi).1]; unfold ms_Sn; rw [if_pos hk']
  · exact ⟨(hf k hk).2.2.1, fun i _ _ => rfl⟩
  · have hk' : k < N := hk
    obtain ⟨a1, a2, a3, a4, a5, a6, a7, a8, a9⟩ := hf k hk
    have e : ∀ q i, q ≤ N → ms_rl (bN β) i → hS (N, (fun k => (f k).1), (fun k => (f k).2), fun k i => g.1 82 (27 * k + i)) (cur β) q i = ms_Sn g N q i := by
      intro q i hq hi
      unfold hS ms_Sn
      by_cases c : q < N
      · rw [if_pos c, if_pos c]
      · rw [if_neg c, if_neg c, mv_cur hw hm hi]
    refine wfh_c (s := ms_Sn g N k) (s' := ms_Sn g N (k + 1)) hn ⟨a1, fun q => (a4 q).1, a5, a6, a7, fun q => ?_, fun q => ⟨(a9 q).1, (a9 q).2.1, fun i hi => ?_⟩⟩ (fun i hi => e k i (by omega) hi) (fun i hi => e (k + 1) i (by omega) hi)
    · rw [(a8 q).1]; exact (a8 q).2
    · rw [((a9 q).2.2 i hi).1]; exact ((a9 q).2.2 i hi).2
theorem of_U {g : gb_G} {β : ms_B} {H : ms_H} (hw : wfB β) (hm : mvB (g.1 79) β) (h1 : cvH g 33 H (bN β)) (h2 : mvH g H (bN β)) (h3 : wfH H (bN β) (cur β)) : iU g (bN β) := by
  have hn := hw.1
  refine ⟨H.1, h3.1, h1.1, h2.1, fun k hk => ?_⟩
  obtain ⟨c1, c2, c3, c4⟩ := h1.2 k hk
  obtain ⟨m1, m2⟩ := h2.2 k hk
  have e : ∀ q i, q ≤ H.1 → ms_rl (bN β) i → ms_Sn g H.1 q i = hS H (cur β) q i := by
    intro q i hq hi
    unfold hS ms_Sn
    by_cases c : q < H.1
    · rw [if_pos c, if_pos c, (h2.2 q c).2 i (by unfold ms_rl at hi; omega) hi]
    · rw [if_neg c, if_neg c, mv_cur hw hm hi]
  have hh := wfh_c hn (h3.2 k hk) (u := ms_Sn g H.1 k) (u' := ms_Sn g H.1 (k + 1)) (fun i hi => e k i (by omega) hi) (fun i hi => e (k + 1) i (by omega) hi)
  have hk0 : ∀ i, ms_rl (bN β) i → ms_Sn g H.1 k i = H.2.2.2 k i := fun i hi => by rw [e k i (by omega) hi]; unfold hS; rw [if_pos hk]
  obtain ⟨a1, a2, a3, a4, a5, a6, a7⟩ := hh
  refine ⟨H.2.1 k, H.2.2.1 k, a1, c1, m1, fun q => ⟨a2 q, c2 q⟩, a3, a4, a5, fun q => ?_, fun q => ⟨(a7 q).1, (a7 q).2.1, fun i hi => ?_⟩⟩
  · have := a2 (by omega)
    rw [show g.1 36 k = H.2.2.2 k (19 + H.2.2.1 k) from c3 q, ← hk0 _ (by unfold ms_rl; omega)]
    exact ⟨rfl, a6 q⟩
  · rw [show g.1 37 (8 * k + i) = H.2.2.2 k (3 + i) from c4 q i hi, ← hk0 _ (by unfold ms_rl; omega)]
    exact ⟨rfl, (a7 q).2.2 i hi⟩
/-! one more, the oldest gone if there are 16 -/
def hDrop (H : ms_H) : ms_H := (H.1 - 1, (fun k => H.2.1 (k + 1)), (fun k => H.2.2.1 (k + 1)), fun k => H.2.2.2 (k + 1))
def hAdd (H : ms_H) (K j : Nat) (s : Nat → Int32) : ms_H := (H.1 + 1, (fun k => if k = H.1 then K else H.2.1 k), (fun k => if k = H.1 then j else H.2.2.1 k), fun k => if k = H.1 then s else H.2.2.2 k)
def hPush (H : ms_H) (K j : Nat) (s : Nat → Int32) : ms_H := hAdd (if H.1 = 16 then hDrop H else H) K j s
theorem wfH_drop {H : ms_H} {n : Nat} {c : Nat → Int32} (h : wfH H n c) : wfH (hDrop H) n c := by
  refine ⟨by show H.1 - 1 ≤ 16; have := h.1; omega, fun k hk => ?_⟩
  have hk' : k < H.1 - 1 := hk
  have e : ∀ q, q ≤ H.1 - 1 → hS (hDrop H) c q = hS H c (q + 1) := by
    intro q hq
    unfold hS
    by_cases c1 : q < H.1 - 1
    · rw [if_pos (show q < (hDrop H).1 from c1), if_pos (by omega)]; rfl
    · rw [if_neg (show ¬ q < (hDrop H).1 from c1), if_neg (by omega)]
  rw [e k (by omega), e (k + 1) (by omega)]
  exact h.2 (k + 1) (by omega)
theorem wfH_add {H : ms_H} {n K j : Nat} {c c' : Nat → Int32} (h : wfH H n c) (hN : H.1 < 16) (hh : wfh K j n c c') : wfH (hAdd H K j c) n c' := by
  refine ⟨hN, fun k hk => ?_⟩
  have hk' : k < H.1 + 1 := hk
  have e : ∀ q, q ≤ H.1 → hS (hAdd H K j c) c' q = hS H c q := by
    intro q hq
    unfold hS
    rw [if_pos (show q < (hAdd H K j c).1 by show q < H.1 + 1; omega)]
    by_cases c1 : q < H.1
    · rw [if_pos c1]; show (if q = H.1 then c else H.2.2.2 q) = _; rw [if_neg (by omega)]
    · rw [if_neg c1]; show (if q = H.1 then c else H.2.2.2 q) = _; rw [if_pos (by omega)]
  have e2 : hS (hAdd H K j c) c' (H.1 + 1) = c' := by
    unfold hS
    rw [if_neg (show ¬ H.1 + 1 < (hAdd H K j c).1 by show ¬ H.1 + 1 < H.1 + 1; omega)]
  by_cases c1 : k < H.1
  · rw [e k (by omega), e (k + 1) (by omega)]
    show wfh (if k = H.1 then K else H.2.1 k) (if k = H.1 then j else H.2.2.1 k) n _ _
    rw [if_neg (by omega), if_neg (by omega)]
    exact h.2 k c1
  · have ek : k = H.1 := by omega
    subst ek
    rw [e2, e _ (Nat.le_refl _)]
    show wfh (if H.1 = H.1 then K else H.2.1 H.1) (if H.1 = H.1 then j else H.2.2.1 H.1) n _ _
    rw [if_pos rfl, if_pos rfl]
    have : hS H c H.1 = c := by unfold hS; rw [if_neg (by omega)]
    rw [this]
    exact hh
theorem wfH_push {H : ms_H} {n K j : Nat} {c c' : Nat → Int32} (h : wfH H n c) (hh : wfh K j n c c') : wfH (hPush H K j c) n c' := by
  unfold hPush
  by_cases e : H.1 = 16
  · rw [if_pos e]
    exact wfH_add (wfH_drop h) (by show H.1 - 1 < 16; omega) hh
  · rw [if_neg e]
    exact wfH_add h (by have := h.1; omega) hh
/-! the class remembers -/
theorem rem_51 {sh : List gb_Sh} {β : ms_B} {N : Nat} (hw : wfB β) (hN : N < 16) : ∀ (m i fuel : Nat) (g : gb_G), i + m = 8 → m < fuel → cvB sh g 1 β → g.1 33 0 = Int32.ofNat N → gb_T (f_X3_remember_51 sh 33 1 fuel g (Int32.ofNat i)) (fun o => o.1 33 0 = Int32.ofNat (N + 1) ∧ (∀ q, i ≤ q → q < bN β → o.1 37 (8 * N + q) = bT β q 1) ∧ (∀ q, (q < 8 * N + i ∨ 8 * N + 8 ≤ q) → o.1 37 q = g.1 37 q) ∧ (∀ c k, c ≠ 37 → ¬ (c = 33 ∧ k = 0) → o.1 c k = g.1 c k)) := by
  have hn := hw.1
  intro m
  induction m with
  | zero =>
    intro i fuel g h hf hc h0
    obtain ⟨f, rfl⟩ : ∃ f, fuel = f + 1 := ⟨fuel - 1, by omega⟩
    have e : i = 8 := by omega
    subst e
    rw [f_X3_remember_51, if_pos (by decide), gb_let_s, h0, o_succ]
    exact ⟨_, rfl, pi_e, fun q _ _ => by omega, fun q _ => pi_n (by omega), fun c k h1 h2 => pi_n (by omega)⟩
  | succ m ih =>
    intro i fuel g h hf hc h0
    obtain ⟨f, rfl⟩ : ∃ f, fuel = f + 1 := ⟨fuel - 1, by omega⟩
    rw [f_X3_remember_51, if_neg (by rw [show (8 : Int32) = Int32.ofNat 8 from rfl, o_le (by omega) (by omega)]; omega)]
    have rd : ∃ v, f_X0_read sh g 1 (Int32.ofNat i) 1 = some (g, v) ∧ (i < bN β → v = bT β i 1) := by
      by_cases hi : i < bN β
      · exact ⟨_, rd_t (y := 1) (j := 1) hw hc rfl hi rfl (by omega), fun _ => rfl⟩
      · exact ⟨_, rd_f hw hc.1 (by rw [im, o_int (by omega)]; omega), fun q => absurd q hi⟩
    obtain ⟨v, e1, e2⟩ := rd
    rw [e1, gb_bd_s, h0, x8, gb_ck_s (o_in (by omega) (by omega)), gb_let_s, o_cl (by omega), o_succ]
    obtain ⟨o, eo, o1, o2, o3, o4⟩ := ih (i + 1) f (gb_pi g 37 (8 * N + i) v) (by omega) (by omega) (cvB_fr hc fun c k q => ⟨pi_n (by omega), rfl, rfl⟩) (by rw [pi_n (by omega)]; exact h0)
    refine ⟨o, eo, o1, fun q q1 q2 => ?_, fun q q1 => ?_, fun c k q1 q2 => ?_⟩
    · by_cases eq : q = i
      · subst eq; rw [o3 _ (by omega), pi_e]; exact e2 q2
      · exact o2 q (by omega) q2
    · rw [o3 q (by omega), pi_n (by omega)]
    · rw [o4 c k q1 q2, pi_n (by omega)]
theorem rem_13 {sh : List gb_Sh} {β : ms_B} {H : ms_H} {g : gb_G} {K j : Nat} {x2 : Int32} (hw : wfB β) (hc : cvB sh g 1 β) (hh : cvH g 33 H (bN β)) (hN : H.1 < 16) (hK : K ≤ 3) (hj : K < 3 → j < bN β ∧ x2 = Int32.ofNat j) : gb_T (f_X3_remember_13 sh 33 1 g (Int32.ofNat K) x2) (fun o => cvH o 33 (hAdd H K j (cur β)) (bN β)) := by
  have hn := hw.1
  obtain ⟨h0, h1⟩ := hh
  have ck : ∀ {α : Type} {y : Option α}, gb_ck (Int32.ofNat H.1) 16 y = y := fun {α y} => gb_ck_s (o_in hN (by omega))
  obtain ⟨q1, hq1⟩ : ∃ q, q = gb_pi g 34 H.1 (Int32.ofNat K) := ⟨_, rfl⟩
  obtain ⟨q2, hq2⟩ : ∃ q, q = gb_pi q1 35 H.1 x2 := ⟨_, rfl⟩
  have F2 : gb_Fr (fun c k => c = 34 ∨ c = 35) g q2 := by
    rw [hq2, hq1]; exact (gb_Fr.rf.p2 (Or.inl rfl)).p2 (Or.inr rfl)
  have hc2 : cvB sh q2 1 β := cvB_fr hc fun c k q => F2 c k (by omega)
  have rd : ∃ v, f_X0_read sh q2 1 x2 2 = some (q2, v) ∧ (K < 3 → v = bT β j 2) := by
    by_cases hk : K < 3
    · exact ⟨_, rd_t (y := 2) (j := 2) hw hc2 (hj hk).2 (hj hk).1 rfl (by omega), fun _ => rfl⟩
    · by_cases hx : im 0 ((bN β : Int) - 1) x2
      · obtain ⟨i, hi, e⟩ := o_of hx
        exact ⟨_, rd_t (y := 2) (j := 2) hw hc2 e hi rfl (by omega), fun q => absurd q hk⟩
      · exact ⟨_, rd_f hw hc2.1 hx, fun q => absurd q hk⟩
  obtain ⟨v, e1, e2⟩ := rd
  obtain ⟨q3, hq3⟩ : ∃ q, q = gb_pi q2 36 H.1 v := ⟨_, rfl⟩
  have F3 : gb_Fr (fun c k => c = 34 ∨ c = 35 ∨ c = 36) g q3 := by
    rw [hq3]; exact (F2.up (fun c k q => by omega)).p2 (by omega)
  obtain ⟨o, eo, o1, o2, o3, o4⟩ := rem_51 (sh := sh) (N := H.1) hw hN 8 0 gb_N q3 (by omega) (by unfold gb_N; omega) (cvB_fr hc fun c k q => F3 c k (by omega)) (by rw [(F3 33 0 (by omega)).1]; exact h0)
  refine ⟨o, ?_, o1, fun k hk => ?_⟩
  · unfold f_X3_remember_13
    rw [h0, ck, o_cl (by omega), gb_let_s, ← hq1, show q1.1 33 0 = Int32.ofNat H.1 by rw [hq1, pi_n (by omega)]; exact h0, ck, o_cl (by omega), gb_let_s, ← hq2, e1, gb_bd_s, show q2.1 33 0 = Int32.ofNat H.1 by rw [(F2 33 0 (by omega)).1]; exact h0, ck, o_cl (by omega), gb_let_s, ← hq3]
    exact eo
  · have hk' : k < H.1 + 1 := hk
    show o.1 34 k = Int32.ofNat (if k = H.1 then K else H.2.1 k) ∧ ((if k = H.1 then K else H.2.1 k) < 3 → o.1 35 k = Int32.ofNat (if k = H.1 then j else H.2.2.1 k)) ∧ ((if k = H.1 then K else H.2.1 k) = 2 → o.1 36 k = (if k = H.1 then cur β else H.2.2.2 k) (19 + (if k = H.1 then j else H.2.2.1 k))) ∧ ((if k = H.1 then K else H.2.1 k) = 3 → ∀ i, i < bN β → o.1 37 (8 * k + i) = (if k = H.1 then cur β else H.2.2.2 k) (3 + i))
    rw [o4 34 k (by omega) (by omega), o4 35 k (by omega) (by omega), o4 36 k (by omega) (by omega)]
    by_cases ek : k = H.1
    · simp only [if_pos ek]
      rw [ek, hq3, pi_n (by omega), hq2, pi_n (by omega), hq1, pi_e, pi_n (by omega), pi_e, pi_e]
      refine ⟨rfl, fun q => (hj q).2, fun q => ?_, fun q i hi => ?_⟩
      · rw [cur_we]; exact e2 (by omega)
      · rw [cur_now (by omega)]; exact o2 i (by omega) hi
    · simp only [if_neg ek]
      rw [hq3, pi_n (by omega), hq2, pi_n (by omega), hq1, pi_n (by omega), pi_n (by omega), pi_n (by omega), pi_n (by omega), pi_n (by omega), pi_n (by omega)]
      obtain ⟨c1, c2, c3, c4⟩ := h1 k (by omega)
      refine ⟨c1, c2, c3, fun q i hi => ?_⟩
      rw [o3 _ (by omega), (F3 37 _ (by omega)).1]
      exact c4 q i hi
