/-! ===== what both sides hold, and how they hold it alike ===== -/
/-- a LAW: of each CLAUSE its kind, what its SUM tells (none: BROKEN), whether its "if" is so (none: BROKEN), by what the words tell -/
abbrev ms_Q : Type := Nat × ((Nat → Int32) → Option Int32) × ((Nat → Int32) → Option Bool)
abbrev ms_L : Type := List ms_Q
/-- a basket: GOODS, traits of each (BASE NOW WEIGHT GLAD PLACE LACKING STAND-IN), PEOPLE, OWN weights, how often HEARD, what, TERMS, LAWS, FORCE -/
abbrev ms_B : Type := Nat × (Nat → Nat → Int32) × Nat × (Nat → Nat → Int32) × Nat × (Nat → Int32) × (Nat → Int32) × List ms_L × Int32
abbrev bN (β : ms_B) : Nat := β.1
abbrev bT (β : ms_B) : Nat → Nat → Int32 := β.2.1
abbrev bP (β : ms_B) : Nat := β.2.2.1
abbrev bO (β : ms_B) : Nat → Nat → Int32 := β.2.2.2.1
abbrev bH (β : ms_B) : Nat := β.2.2.2.2.1
abbrev bHe (β : ms_B) : Nat → Int32 := β.2.2.2.2.2.1
abbrev bTe (β : ms_B) : Nat → Int32 := β.2.2.2.2.2.2.1
abbrev bL (β : ms_B) : List ms_L := β.2.2.2.2.2.2.2.1
abbrev bF (β : ms_B) : Int32 := β.2.2.2.2.2.2.2.2
/-- the words of a LAW are small -/
def ok9 (w : Nat → Int32) : Prop := ∀ j, j < 9 → im (-1000000000) 1000000000 (w j)
/-- what a CLAUSE tells, if it HOLDS -/
def ms_ho (q : ms_Q) (w : Nat → Int32) : Option Int32 := if q.2.2 w = some true then q.2.1 w else none
def wfQ (q : ms_Q) : Prop := q.1 ≤ 3 ∧ (q.1 = 3 → ∀ w, q.2.1 w = some 1) ∧ (∀ w v, ok9 w → q.2.1 w = some v → im (-1000000000) 1000000000 v) ∧ ∀ w w' : Nat → Int32, (∀ j, j < 9 → w j = w' j) → q.2.1 w = q.2.1 w' ∧ q.2.2 w = q.2.2 w'
/-- what holds of what is told of a GOOD -/
def wfT (n : Nat) (t : Nat → Int32) : Prop := im 1 12 (t 0) ∧ im 1 12 (t 1) ∧ im 0 99 (t 2) ∧ im 0 9 (t 3) ∧ im 0 24 (t 4) ∧ im 0 1 (t 5) ∧ im (-1) ((n : Int) - 1) (t 6)
/-- what holds of every basket -/
def wfB (β : ms_B) : Prop := bN β ≤ 8 ∧ bP β ≤ 5 ∧ bH β ≤ 12 ∧ (bL β).length ≤ 6 ∧ (∀ lw ∈ bL β, lw.length ≤ 12 ∧ ∀ q ∈ lw, wfQ q) ∧ im (-1) (((bL β).length : Int) - 1) (bF β) ∧
  (∀ i, i < bN β → wfT (bN β) (bT β i)) ∧ (∀ p i, p < bP β → i < bN β → im 0 9 (bO β p i)) ∧ (∀ p i, p < 5 → i < 8 → ¬ (p < bP β ∧ i < bN β) → bO β p i = 0) ∧ (∀ j, j < bH β → im 0 999 (bHe β j)) ∧ im 0 999 (bTe β 0) ∧ im 0 10 (bTe β 1) ∧ im 0 9 (bTe β 2)
/-- BROKEN, as the class' machine tells it -/
def ms_br (o : Option Int32) : Int32 := o.getD (-2147483648)
def ms_tb (o : Option Bool) : Int32 := match o with
  | none => -2147483648
  | some true => 1
  | some false => 0
/-- the program at cell p holds a LAW: over any heap that has these six cells, the machine tells of it what the LAW tells -/
def cvL (sh : List gb_Sh) (g : gb_G) (p : Nat) (lw : ms_L) : Prop := gb_okX7 sh p ∧ 105 ≤ p ∧ g.1 p 3 = Int32.ofNat lw.length ∧ gb_ln sh (p + 3) = lw.length ∧ ∀ (c : Nat) (q : ms_Q), lw[c]? = some q → g.1 (p + 3) c = Int32.ofNat q.1 ∧
  ∀ g' : gb_G, (∀ i k, i < 6 → g'.1 (p + i) k = g.1 (p + i) k) → ok9 (g'.1 55) → (∃ g'' : gb_G, f_X5_run sh g' p (Int32.ofNat c) 0 55 9 = some (g'', ms_br (q.2.1 (g'.1 55)))) ∧ (∃ g'' : gb_G, f_X5_run sh g' p (Int32.ofNat c) 2 55 9 = some (g'', ms_tb (q.2.2 (g'.1 55))))
/-- the Basket at cell b holds β -/
def cvB (sh : List gb_Sh) (g : gb_G) (b : Nat) (β : ms_B) : Prop := g.1 b 0 = Int32.ofNat (bN β) ∧ (∀ i j, i < bN β → j < 7 → g.1 (b + 1) (7 * i + j) = bT β i j) ∧ g.1 b 2 = Int32.ofNat (bP β) ∧ (∀ p i, p < 5 → i < 8 → g.1 (b + 2) (8 * p + i) = bO β p i) ∧ g.1 b 4 = Int32.ofNat (bH β) ∧ (∀ j, j < bH β → g.1 (b + 3) j = bHe β j) ∧ (∀ j, j < 3 → g.1 (b + 4) j = bTe β j) ∧ g.1 b 7 = Int32.ofNat (bL β).length ∧ (∀ (k : Nat) (lw : ms_L), (bL β)[k]? = some lw → ∃ p, g.2.2 (b + 5) k = some p ∧ cvL sh g p lw) ∧ g.1 b 9 = bF β
/-- the row rho holds a LAW from a on -/
def mvL (rho : Nat → Int32) (a : Nat) (lw : ms_L) : Prop := rho (a + 1) = Int32.ofNat lw.length ∧ ∀ (c : Nat) (q : ms_Q), lw[c]? = some q → rho (a + 2 + 8 * c) = Int32.ofNat q.1 ∧
  ∀ (sh : List gb_Sh) (g : gb_G) (w : Nat → Int32), ok9 w → (∀ k, k < 900 → g.1 79 (a + k) = rho (a + k)) → g.1 77 34 = Int32.ofNat a → g.1 77 20 = 0 → (∀ j, j < 9 → g.2.1 95 (j + 1) = (w j).toInt64) → ∃ g' : gb_G, f_X11_isSo sh g (Int32.ofNat (a + 2 + 8 * c)) = some (g', if (ms_ho q w).isSome then 1 else 0) ∧ ∀ v, ms_ho q w = some v → q.1 ≠ 3 → g'.2.1 77 40 = v.toInt64
/-- the row rho holds a basket -/
def mvB (rho : Nat → Int32) (β : ms_B) : Prop := rho 0 = Int32.ofNat (bN β) ∧ (∀ i, i < bN β → rho (32 + i) = bT β i 0 ∧ rho (8 + i) = bT β i 1 ∧ rho (24 + i) = bT β i 2 ∧ rho (40 + i) = bT β i 3 ∧ rho (48 + i) = bT β i 4 ∧ rho (16 + i) = bT β i 5 ∧ rho (56 + i) = bT β i 6) ∧ rho 1 = Int32.ofNat (bP β) ∧ (∀ p i, p < bP β → i < bN β → rho (64 + 8 * p + i) = bO β p i) ∧ rho 2 = Int32.ofNat (bH β) ∧ (∀ j, j < bH β → rho (104 + j) = bHe β j) ∧ (∀ j, j < 3 → rho (5 + j) = bTe β j) ∧ rho 3 = Int32.ofNat (bL β).length ∧ (∀ (k : Nat) (lw : ms_L), (bL β)[k]? = some lw → mvL rho (120 + 900 * k) lw) ∧ rho 4 = bF β
/-- what the reference keeps ahead of the k-th change that can be undone; behind the last: what is -/
def ms_Sn (g : gb_G) (N k i : Nat) : Int32 := if k < N then g.1 82 (27 * k + i) else g.1 79 (5 + i)
def ms_rl (n i : Nat) : Prop := i < 3 ∨ (3 ≤ i ∧ i < 3 + n) ∨ (11 ≤ i ∧ i < 11 + n) ∨ (19 ≤ i ∧ i < 19 + n)
/-- the k-th change that can be undone: kind K, GOOD j -/
def iu (g : gb_G) (n N k : Nat) : Prop := ∃ K j : Nat, K ≤ 3 ∧ g.1 34 k = Int32.ofNat K ∧ g.1 83 k = Int32.ofNat K ∧ (K < 3 → j < n ∧ g.1 35 k = Int32.ofNat j) ∧
  (∀ i, ms_rl n i → ¬ (K ≤ 1 ∧ i = 11 + j) → ¬ (K = 2 ∧ i = 19 + j) → ¬ (K = 3 ∧ (i = 0 ∨ (3 ≤ i ∧ i < 11))) → ms_Sn g N k i = ms_Sn g N (k + 1) i) ∧
  (K = 0 → ms_Sn g N k (11 + j) = 0 ∧ ms_Sn g N (k + 1) (11 + j) = 1) ∧ (K = 1 → ms_Sn g N k (11 + j) = 1 ∧ ms_Sn g N (k + 1) (11 + j) = 0) ∧
  (K = 2 → ms_Sn g N k (19 + j) = g.1 36 k ∧ im 0 99 (g.1 36 k)) ∧
  (K = 3 → im 0 998 (ms_Sn g N k 0) ∧ ms_Sn g N (k + 1) 0 = ms_Sn g N k 0 + 1 ∧ ∀ i, i < n → ms_Sn g N k (3 + i) = g.1 37 (8 * k + i) ∧ im 1 12 (g.1 37 (8 * k + i)))
def iU (g : gb_G) (n : Nat) : Prop := ∃ N, N ≤ 16 ∧ g.1 33 0 = Int32.ofNat N ∧ g.1 77 8 = Int32.ofNat N ∧ ∀ k, k < N → iu g n N k
/-- FAULT, COMMAS, stopped, status -/
def iM (g : gb_G) : Prop := g.1 0 15 = g.1 77 18 ∧ g.1 0 16 = g.1 77 11 ∧ g.1 0 17 = g.1 77 51 ∧ g.1 0 18 = g.1 77 1
def iR (g : gb_G) : Prop := ∀ k, k < 7 → g.1 76 k = g.1 78 k
def iT (g : gb_G) : Prop := ∃ n, n ≤ 400 ∧ g.1 43 1 = Int32.ofNat n ∧ g.1 77 13 = Int32.ofNat n ∧ ∀ j, j < n → g.1 44 j = g.1 86 j ∧ im 0 255 (g.1 44 j)
def iD (g : gb_G) : Prop := ∃ n, n ≤ 8 ∧ g.1 13 0 = Int32.ofNat n ∧ (g.1 77 55 = Int32.ofNat n ∨ (g.1 77 55 = -1 ∧ n = 0)) ∧ ∀ i, i < n → g.1 14 (7 * i + 1) = g.1 104 i ∧ g.1 14 (7 * i + 5) = g.1 104 (8 + i)
def iF (sh : List gb_Sh) (g : gb_G) : Prop := ∀ b k a, (b = 6 ∨ b = 12 ∨ b = 18 ∨ b = 25 ∨ b = 31) → k < 6 → g.2.2 b k = some a → gb_okX7 sh a
def iI (sh : List gb_Sh) (g : gb_G) : Prop := g.2.2 19 0 = some 20 ∧ g.2.2 19 1 = some 26 ∧ ∀ j, j < 2 → (g.1 32 j = 0 ∧ g.1 81 j = 0) ∨ (g.1 32 j = 1 ∧ g.1 81 j = 1 ∧ ∃ β, wfB β ∧ cvB sh g (20 + 6 * j) β ∧ mvB (fun k => g.1 80 (5520 * j + k)) β)
/-- the reference's tables of words, which nobody writes -/
def mvC (g : gb_G) : Prop := (∀ k, k < 9 → g.2.1 92 k = [245220, 67173, 14839, 777297172, 241700, 12619123, 17171557, 14137992, 441828].getD k 0) ∧ (∀ k, k < 7 → g.2.1 93 k = [14137992, 146885, 404362868, 211015237, 12921972167, 14839, 777297172].getD k 0) ∧ (∀ k, k < 4 → g.2.1 94 k = [14145715, 117095059, 7734419, 67155].getD k 0) ∧ (∀ k, k < 4 → g.2.1 102 k = [394347, 206276, 24290536, 525939].getD k 0)
/-- the basket, on both sides -/
def iB (sh : List gb_Sh) (g : gb_G) (β : ms_B) : Prop := wfB β ∧ cvB sh g 1 β ∧ mvB (g.1 79) β
/-- THE INVARIANT -/
def gb_I (sh : List gb_Sh) (g : gb_G) : Prop := (gb_S sh ∧ 105 ≤ sh.length) ∧ (mvC g ∧ g.1 77 20 = 0) ∧ iF sh g ∧ iM g ∧ iR g ∧ iT g ∧ iD g ∧ iI sh g ∧ ∃ β, iB sh g β ∧ iU g (bN β)
/-! each holds still where its cells do -/
def eqc (g g' : gb_G) (c k : Nat) : Prop := g'.1 c k = g.1 c k ∧ g'.2.1 c k = g.2.1 c k ∧ g'.2.2 c k = g.2.2 c k
theorem cvL_fr {sh : List gb_Sh} {g g' : gb_G} {p : Nat} {lw : ms_L} (h : cvL sh g p lw) (e : ∀ c k, 105 ≤ c → eqc g g' c k) : cvL sh g' p lw := by
  obtain ⟨h1, h2, h3, h4, h5⟩ := h
  refine ⟨h1, h2, by rw [(e p 3 h2).1]; exact h3, h4, fun c q hq => ?_⟩
  obtain ⟨h6, h7⟩ := h5 c q hq
  refine ⟨by rw [(e (p + 3) c (by omega)).1]; exact h6, fun g2 e2 => h7 g2 fun i k hi => ?_⟩
  rw [e2 i k hi, (e (p + i) k (by omega)).1]
theorem cvB_fr {sh : List gb_Sh} {g g' : gb_G} {b : Nat} {β : ms_B} (h : cvB sh g b β) (e : ∀ c k, (b ≤ c ∧ c ≤ b + 5) ∨ 105 ≤ c → eqc g g' c k) : cvB sh g' b β := by
  obtain ⟨h0, h1, h2, h3, h4, h5, h6, h7, h8, h9⟩ := h
  refine ⟨?_, fun i j hi hj => ?_, ?_, fun p i hp hi => ?_, ?_, fun j hj => ?_, fun j hj => ?_, ?_, fun k lw hk => ?_, ?_⟩
  · rw [(e b 0 (by omega)).1]; exact h0
  · rw [(e (b + 1) _ (by omega)).1]; exact h1 i j hi hj
  · rw [(e b 2 (by omega)).1]; exact h2
  · rw [(e (b + 2) _ (by omega)).1]; exact h3 p i hp hi
  · rw [(e b 4 (by omega)).1]; exact h4
  · rw [(e (b + 3) _ (by omega)).1]; exact h5 j hj
  · rw [(e (b + 4) _ (by omega)).1]; exact h6 j hj
  · rw [(e b 7 (by omega)).1]; exact h7
  · obtain ⟨p, hp, hl⟩ := h8 k lw hk
    exact ⟨p, by rw [(e (b + 5) k (by omega)).2.2]; exact hp, cvL_fr hl fun c k hc => e c k (Or.inr hc)⟩
  · rw [(e b 9 (by omega)).1]; exact h9
theorem mvL_fr {rho rho' : Nat → Int32} {a : Nat} {lw : ms_L} (h : mvL rho a lw) (hl : lw.length ≤ 12) (e : ∀ k, k < 900 → rho' (a + k) = rho (a + k)) : mvL rho' a lw := by
  obtain ⟨h1, h2⟩ := h
  refine ⟨by rw [e 1 (by omega)]; exact h1, fun c q hq => ?_⟩
  obtain ⟨h3, h4⟩ := h2 c q hq
  have hc : c < lw.length := by
    by_cases hc : c < lw.length
    · exact hc
    · rw [List.getElem?_eq_none (by omega)] at hq; cases hq
  refine ⟨by rw [Nat.add_assoc, e (2 + 8 * c) (by omega), ← Nat.add_assoc]; exact h3, fun sh g w hw hr => h4 sh g w hw fun k hk => ?_⟩
  rw [hr k hk, e k hk]
theorem mvB_fr {rho rho' : Nat → Int32} {β : ms_B} (h : mvB rho β) (hw : wfB β) (e : ∀ k, k < 5520 → rho' k = rho k) : mvB rho' β := by
  obtain ⟨w1, w2, w3, w4, w5, -⟩ := hw
  obtain ⟨h0, h1, h2, h3, h4, h5, h6, h7, h8, h9⟩ := h
  refine ⟨?_, fun i hi => ?_, ?_, fun p i hp hi => ?_, ?_, fun j hj => ?_, fun j hj => ?_, ?_, fun k lw hk => ?_, ?_⟩
  · rw [e 0 (by omega)]; exact h0
  · rw [e _ (by omega), e _ (by omega), e _ (by omega), e _ (by omega), e _ (by omega), e _ (by omega), e _ (by omega)]; exact h1 i hi
  · rw [e 1 (by omega)]; exact h2
  · rw [e _ (by omega)]; exact h3 p i hp hi
  · rw [e 2 (by omega)]; exact h4
  · rw [e _ (by omega)]; exact h5 j hj
  · rw [e _ (by omega)]; exact h6 j hj
  · rw [e 3 (by omega)]; exact h7
  · have hl : k < (bL β).length := by
      by_cases hc : k < (bL β).length
      · exact hc
      · rw [List.getElem?_eq_none (by omega)] at hk; cases hk
    exact mvL_fr (h8 k lw hk) (w5 lw (List.mem_of_getElem? hk)).1 fun q hq => e _ (by omega)
  · rw [e 4 (by omega)]; exact h9
theorem iF_fr {sh : List gb_Sh} {g g' : gb_G} (h : iF sh g) (e : ∀ c k, c = 6 ∨ c = 12 ∨ c = 18 ∨ c = 25 ∨ c = 31 → eqc g g' c k) : iF sh g' := fun b k a hb hk hq => h b k a hb hk (by rw [← (e b k hb).2.2]; exact hq)
theorem iM_fr {g g' : gb_G} (h : iM g) (e : ∀ c k, (c = 0 ∧ 15 ≤ k ∧ k ≤ 18) ∨ (c = 77 ∧ (k = 1 ∨ k = 11 ∨ k = 18 ∨ k = 51)) → eqc g g' c k) : iM g' := by
  obtain ⟨h1, h2, h3, h4⟩ := h
  refine ⟨?_, ?_, ?_, ?_⟩ <;> rw [(e _ _ (by omega)).1, (e _ _ (by omega)).1] <;> assumption
theorem iR_fr {g g' : gb_G} (h : iR g) (e : ∀ c k, c = 76 ∨ c = 78 → eqc g g' c k) : iR g' := fun k hk => by
  rw [(e 76 k (by omega)).1, (e 78 k (by omega)).1]; exact h k hk
theorem iT_fr {g g' : gb_G} (h : iT g) (e : ∀ c k, (c = 43 ∧ k = 1) ∨ c = 44 ∨ (c = 77 ∧ k = 13) ∨ c = 86 → eqc g g' c k) : iT g' := by
  obtain ⟨n, h1, h2, h3, h4⟩ := h
  refine ⟨n, h1, by rw [(e 43 1 (by omega)).1]; exact h2, by rw [(e 77 13 (by omega)).1]; exact h3, fun j hj => ?_⟩
  rw [(e 44 j (by omega)).1, (e 86 j (by omega)).1]; exact h4 j hj
theorem iD_fr {g g' : gb_G} (h : iD g) (e : ∀ c k, (c = 13 ∧ k = 0) ∨ c = 14 ∨ (c = 77 ∧ k = 55) ∨ c = 104 → eqc g g' c k) : iD g' := by
  obtain ⟨n, h1, h2, h3, h4⟩ := h
  refine ⟨n, h1, by rw [(e 13 0 (by omega)).1]; exact h2, by rw [(e 77 55 (by omega)).1]; exact h3, fun j hj => ?_⟩
  rw [(e 14 _ (by omega)).1, (e 14 _ (by omega)).1, (e 104 _ (by omega)).1, (e 104 _ (by omega)).1]; exact h4 j hj
theorem iI_fr {sh : List gb_Sh} {g g' : gb_G} (h : iI sh g) (e : ∀ c k, (19 ≤ c ∧ c ≤ 32) ∨ 105 ≤ c ∨ c = 80 ∨ c = 81 → eqc g g' c k) : iI sh g' := by
  obtain ⟨h1, h2, h3⟩ := h
  refine ⟨by rw [(e 19 0 (by omega)).2.2]; exact h1, by rw [(e 19 1 (by omega)).2.2]; exact h2, fun j hj => ?_⟩
  rw [(e 32 j (by omega)).1, (e 81 j (by omega)).1]
  rcases h3 j hj with h4 | ⟨h4, h5, β, hw, hc, hm⟩
  · exact Or.inl h4
  · exact Or.inr ⟨h4, h5, β, hw, cvB_fr hc fun c k hck => e c k (by omega), mvB_fr hm hw fun k _ => (e 80 _ (by omega)).1⟩
theorem iu_fr {g g' : gb_G} {n N k : Nat} (hN : N ≤ 16) (hn : n ≤ 8) (hk : k < N) (h : iu g n N k) (e : ∀ c k, (34 ≤ c ∧ c ≤ 37) ∨ c = 83 ∨ (c = 79 ∧ 5 ≤ k ∧ k < 32) ∨ (c = 82 ∧ k < 432) → eqc g g' c k) : iu g' n N k := by
  have hs : ∀ q i, q ≤ N → i < 27 → ms_Sn g' N q i = ms_Sn g N q i := by
    intro q i hq hi
    unfold ms_Sn
    split
    · exact (e _ _ (by omega)).1
    · exact (e _ _ (by omega)).1
  obtain ⟨K, j, a1, a2, a3, a4, a5, a6, a7, a8, a9⟩ := h
  refine ⟨K, j, a1, by rw [(e _ _ (by omega)).1]; exact a2, by rw [(e _ _ (by omega)).1]; exact a3, fun q => ⟨(a4 q).1, by rw [(e _ _ (by omega)).1]; exact (a4 q).2⟩, fun i hi q1 q2 q3 => ?_, fun q => ?_, fun q => ?_, fun q => ?_, fun q => ?_⟩
  · have hi' : i < 27 := by unfold ms_rl at hi; omega
    rw [hs _ _ (by omega) hi', hs _ _ (by omega) hi']; exact a5 i hi q1 q2 q3
  · have := (a4 (by omega)).1
    rw [hs _ _ (by omega) (by omega), hs _ _ (by omega) (by omega)]; exact a6 q
  · have := (a4 (by omega)).1
    rw [hs _ _ (by omega) (by omega), hs _ _ (by omega) (by omega)]; exact a7 q
  · have := (a4 (by omega)).1
    rw [hs _ _ (by omega) (by omega), (e 36 _ (by omega)).1]; exact a8 q
  · obtain ⟨b1, b2, b3⟩ := a9 q
    refine ⟨by rw [hs _ _ (by omega) (by omega)]; exact b1, by rw [hs _ _ (by omega) (by omega), hs _ _ (by omega) (by omega)]; exact b2, fun i hi => ?_⟩
    rw [hs _ _ (by omega) (by omega), (e 37 _ (by omega)).1]; exact b3 i hi
theorem iU_fr {g g' : gb_G} {n : Nat} (hn : n ≤ 8) (h : iU g n) (e : ∀ c k, (33 ≤ c ∧ c ≤ 37) ∨ c = 83 ∨ (c = 79 ∧ 5 ≤ k ∧ k < 32) ∨ (c = 82 ∧ k < 432) ∨ (c = 77 ∧ k = 8) → eqc g g' c k) : iU g' n := by
  obtain ⟨N, h1, h2, h3, h4⟩ := h
  exact ⟨N, h1, by rw [(e 33 0 (by omega)).1]; exact h2, by rw [(e 77 8 (by omega)).1]; exact h3, fun k hk => iu_fr h1 hn hk (h4 k hk) fun c k hck => e c k (by omega)⟩
theorem iB_fr {sh : List gb_Sh} {g g' : gb_G} {β : ms_B} (h : iB sh g β) (e : ∀ c k, (1 ≤ c ∧ c ≤ 6) ∨ 105 ≤ c ∨ c = 79 → eqc g g' c k) : iB sh g' β := by
  obtain ⟨h1, h2, h3⟩ := h
  exact ⟨h1, cvB_fr h2 fun c k hck => e c k (by omega), mvB_fr h3 h1 fun k _ => (e 79 k (by omega)).1⟩
theorem mvC_fr {g g' : gb_G} (h : mvC g) (e : ∀ c k, c = 92 ∨ c = 93 ∨ c = 94 ∨ c = 102 → eqc g g' c k) : mvC g' := by
  obtain ⟨h1, h2, h3, h4⟩ := h
  refine ⟨fun k hk => ?_, fun k hk => ?_, fun k hk => ?_, fun k hk => ?_⟩ <;> rw [(e _ _ (by omega)).2.1]
  · exact h1 k hk
  · exact h2 k hk
  · exact h3 k hk
  · exact h4 k hk
/-- what is only worked on -/
def scr (c k : Nat) : Prop := ¬ ((c = 0 ∧ 15 ≤ k ∧ k ≤ 18) ∨ (1 ≤ c ∧ c ≤ 6) ∨ c = 12 ∨ c = 13 ∨ c = 14 ∨ (18 ≤ c ∧ c ≤ 37) ∨ (c = 43 ∧ k = 1) ∨ c = 44 ∨ c = 76 ∨ 105 ≤ c ∨ (c = 77 ∧ (k = 1 ∨ k = 8 ∨ k = 11 ∨ k = 13 ∨ k = 18 ∨ k = 20 ∨ k = 51 ∨ k = 55)) ∨ (78 ≤ c ∧ c ≤ 81) ∨ (c = 82 ∧ k < 432) ∨ c = 83 ∨ c = 86 ∨ (92 ≤ c ∧ c ≤ 94) ∨ c = 102 ∨ c = 104)
theorem gb_I_fr {sh : List gb_Sh} {g g' : gb_G} (h : gb_I sh g) (e : ∀ c k, ¬ scr c k → eqc g g' c k) : gb_I sh g' := by
  have E0 : ∀ c k, (c = 0 ∧ 15 ≤ k ∧ k ≤ 18) → eqc g g' c k := fun c k q => e c k fun q2 => q2 (Or.inl (q))
  have E1 : ∀ c k, (1 ≤ c ∧ c ≤ 6) → eqc g g' c k := fun c k q => e c k fun q2 => q2 (Or.inr (Or.inl (q)))
  have E2 : ∀ c k, c = 12 → eqc g g' c k := fun c k q => e c k fun q2 => q2 (Or.inr (Or.inr (Or.inl (q))))
  have E3 : ∀ c k, c = 13 → eqc g g' c k := fun c k q => e c k fun q2 => q2 (Or.inr (Or.inr (Or.inr (Or.inl (q)))))
  have E4 : ∀ c k, c = 14 → eqc g g' c k := fun c k q => e c k fun q2 => q2 (Or.inr (Or.inr (Or.inr (Or.inr (Or.inl (q))))))
  have E5 : ∀ c k, (18 ≤ c ∧ c ≤ 37) → eqc g g' c k := fun c k q => e c k fun q2 => q2 (Or.inr (Or.inr (Or.inr (Or.inr (Or.inr (Or.inl (q)))))))
  have E6 : ∀ c k, (c = 43 ∧ k = 1) → eqc g g' c k := fun c k q => e c k fun q2 => q2 (Or.inr (Or.inr (Or.inr (Or.inr (Or.inr (Or.inr (Or.inl (q))))))))
  have E7 : ∀ c k, c = 44 → eqc g g' c k := fun c k q => e c k fun q2 => q2 (Or.inr (Or.inr (Or.inr (Or.inr (Or.inr (Or.inr (Or.inr (Or.inl (q)))))))))
  have E8 : ∀ c k, c = 76 → eqc g g' c k := fun c k q => e c k fun q2 => q2 (Or.inr (Or.inr (Or.inr (Or.inr (Or.inr (Or.inr (Or.inr (Or.inr (Or.inl (q))))))))))
  have E9 : ∀ c k, 105 ≤ c → eqc g g' c k := fun c k q => e c k fun q2 => q2 (Or.inr (Or.inr (Or.inr (Or.inr (Or.inr (Or.inr (Or.inr (Or.inr (Or.inr (Or.inl (q)))))))))))
  have E10 : ∀ c k, (c = 77 ∧ (k = 1 ∨ k = 8 ∨ k = 11 ∨ k = 13 ∨ k = 18 ∨ k = 20 ∨ k = 51 ∨ k = 55)) → eqc g g' c k := fun c k q => e c k fun q2 => q2 (Or.inr (Or.inr (Or.inr (Or.inr (Or.inr (Or.inr (Or.inr (Or.inr (Or.inr (Or.inr (Or.inl (q))))))))))))
  have E11 : ∀ c k, (78 ≤ c ∧ c ≤ 81) → eqc g g' c k := fun c k q => e c k fun q2 => q2 (Or.inr (Or.inr (Or.inr (Or.inr (Or.inr (Or.inr (Or.inr (Or.inr (Or.inr (Or.inr (Or.inr (Or.inl (q)))))))))))))
  have E12 : ∀ c k, (c = 82 ∧ k < 432) → eqc g g' c k := fun c k q => e c k fun q2 => q2 (Or.inr (Or.inr (Or.inr (Or.inr (Or.inr (Or.inr (Or.inr (Or.inr (Or.inr (Or.inr (Or.inr (Or.inr (Or.inl (q))))))))))))))
  have E13 : ∀ c k, c = 83 → eqc g g' c k := fun c k q => e c k fun q2 => q2 (Or.inr (Or.inr (Or.inr (Or.inr (Or.inr (Or.inr (Or.inr (Or.inr (Or.inr (Or.inr (Or.inr (Or.inr (Or.inr (Or.inl (q)))))))))))))))
  have E14 : ∀ c k, c = 86 → eqc g g' c k := fun c k q => e c k fun q2 => q2 (Or.inr (Or.inr (Or.inr (Or.inr (Or.inr (Or.inr (Or.inr (Or.inr (Or.inr (Or.inr (Or.inr (Or.inr (Or.inr (Or.inr (Or.inl (q))))))))))))))))
  have E15 : ∀ c k, (92 ≤ c ∧ c ≤ 94) → eqc g g' c k := fun c k q => e c k fun q2 => q2 (Or.inr (Or.inr (Or.inr (Or.inr (Or.inr (Or.inr (Or.inr (Or.inr (Or.inr (Or.inr (Or.inr (Or.inr (Or.inr (Or.inr (Or.inr (Or.inl (q)))))))))))))))))
  have E16 : ∀ c k, c = 102 → eqc g g' c k := fun c k q => e c k fun q2 => q2 (Or.inr (Or.inr (Or.inr (Or.inr (Or.inr (Or.inr (Or.inr (Or.inr (Or.inr (Or.inr (Or.inr (Or.inr (Or.inr (Or.inr (Or.inr (Or.inr (Or.inl (q))))))))))))))))))
  have E17 : ∀ c k, c = 104 → eqc g g' c k := fun c k q => e c k fun q2 => q2 (Or.inr (Or.inr (Or.inr (Or.inr (Or.inr (Or.inr (Or.inr (Or.inr (Or.inr (Or.inr (Or.inr (Or.inr (Or.inr (Or.inr (Or.inr (Or.inr (Or.inr (q))))))))))))))))))
  obtain ⟨hS, ⟨h1, h2⟩, h3, h4, h5, h6, h7, h8, β, h9, h10⟩ := h
  refine ⟨hS, ⟨mvC_fr h1 fun c k q => ?_, by rw [(E10 77 20 (by omega)).1]; exact h2⟩, iF_fr h3 fun c k q => ?_, iM_fr h4 fun c k q => ?_, iR_fr h5 fun c k q => ?_, iT_fr h6 fun c k q => ?_, iD_fr h7 fun c k q => ?_, iI_fr h8 fun c k q => ?_, β, iB_fr h9 fun c k q => ?_, iU_fr h9.1.1 h10 fun c k q => ?_⟩
  · rcases q with q | q | q | q
    · exact E15 c k (by omega)
    · exact E15 c k (by omega)
    · exact E15 c k (by omega)
    · exact E16 c k (by omega)
  · rcases q with q | q | q | q | q
    · exact E1 c k (by omega)
    · exact E2 c k (by omega)
    · exact E5 c k (by omega)
    · exact E5 c k (by omega)
    · exact E5 c k (by omega)
  · rcases q with q | q
    · exact E0 c k q
    · exact E10 c k (by omega)
  · rcases q with q | q
    · exact E8 c k q
    · exact E11 c k (by omega)
  · rcases q with q | q | q | q
    · exact E6 c k q
    · exact E7 c k q
    · exact E10 c k (by omega)
    · exact E14 c k q
  · rcases q with q | q | q | q
    · exact E3 c k q.1
    · exact E4 c k q
    · exact E10 c k (by omega)
    · exact E17 c k q
  · rcases q with q | q | q | q
    · exact E5 c k (by omega)
    · exact E9 c k q
    · exact E11 c k (by omega)
    · exact E11 c k (by omega)
  · rcases q with q | q | q
    · exact E1 c k q
    · exact E9 c k q
    · exact E11 c k (by omega)
  · rcases q with q | q | q | q | q
    · exact E5 c k (by omega)
    · exact E13 c k q
    · exact E11 c k (by omega)
    · exact E12 c k q
    · exact E10 c k (by omega)
