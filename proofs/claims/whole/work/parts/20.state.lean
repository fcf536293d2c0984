/-! ===== what a state IS: one mathematical value, and how each side holds it ===== -/
/-- a LAW: of each CLAUSE its kind, what its SUM tells (none: BROKEN), whether its "if" is so (none: BROKEN), by what the words tell -/
abbrev ms_L : Type := List (Nat × ((Nat → Int32) → Option Int32) × ((Nat → Int32) → Option Bool))
/-- a basket: GOODS, traits of each (BASE NOW WEIGHT GLAD PLACE LACKING STAND-IN), PEOPLE, OWN weights, how often HEARD, what, TERMS, LAWS, FORCE -/
abbrev ms_B : Type := Nat × (Nat → Nat → Int32) × Nat × (Nat → Nat → Int32) × Nat × (Nat → Int32) × (Nat → Int32) × List ms_L × Int32
abbrev bN (β : ms_B) : Nat := β.1
abbrev bT (β : ms_B) : Nat → Nat → Int32 := β.2.1
abbrev bP (β : ms_B) : Nat := β.2.2.1
abbrev bO (β : ms_B) : Nat → Nat → Int32 := β.2.2.2.1
abbrev bH (β : ms_B) : Nat := β.2.2.2.2.1
abbrev bHe (β : ms_B) : Nat → Int32 := β.2.2.2.2.2.1
abbrev bTe (β : ms_B) : Nat → Int32 := β.2.2.2.2.2.2.1
abbrev bL (β : ms_B) : List ms_L := β.2.2.2.2.2.2.2.1
abbrev bF (β : ms_B) : Int32 := β.2.2.2.2.2.2.2.2
/-- what a change can take back: its kind, and ahead of it the TERMS, NOW, LACKING, WEIGHT of the GOODS -/
abbrev ms_U : Type := Nat × (Nat → Int32) × (Nat → Int32) × (Nat → Int32) × (Nat → Int32)
/-- all: basket, IMAGES, what can be undone (the oldest first), TAPE, (FAULT, COMMAS, stopped, status), REFUSED by -k, drawn (GOODS, NOW, LACKING) -/
abbrev ms_S : Type := ms_B × (Nat → Option ms_B) × List ms_U × List Int32 × (Nat → Int32) × (Nat → Int32) × (Nat × (Nat → Int32) × (Nat → Int32))
abbrev sB (σ : ms_S) : ms_B := σ.1
abbrev sI (σ : ms_S) : Nat → Option ms_B := σ.2.1
abbrev sU (σ : ms_S) : List ms_U := σ.2.2.1
abbrev sT (σ : ms_S) : List Int32 := σ.2.2.2.1
abbrev sM (σ : ms_S) : Nat → Int32 := σ.2.2.2.2.1
abbrev sR (σ : ms_S) : Nat → Int32 := σ.2.2.2.2.2.1
abbrev sD (σ : ms_S) : Nat × (Nat → Int32) × (Nat → Int32) := σ.2.2.2.2.2.2
/-- an Int32 between -/
def im (lo hi : Int) (x : Int32) : Prop := lo ≤ x.toInt ∧ x.toInt ≤ hi
/-- what holds of every basket -/
def wfB (β : ms_B) : Prop := bN β ≤ 8 ∧ bP β ≤ 5 ∧ bH β ≤ 12 ∧ (bL β).length ≤ 6 ∧ (∀ lw ∈ bL β, lw.length ≤ 12 ∧ ∀ q ∈ lw, q.1 ≤ 3) ∧ im (-1) ((bL β).length - 1) (bF β) ∧
  (∀ i, i < bN β → im 1 12 (bT β i 0) ∧ im 1 12 (bT β i 1) ∧ im 0 99 (bT β i 2) ∧ im 0 9 (bT β i 3) ∧ im 0 24 (bT β i 4) ∧ im 0 1 (bT β i 5) ∧ im (-1) (bN β - 1) (bT β i 6)) ∧
  (∀ p i, p < bP β → i < bN β → im 0 9 (bO β p i)) ∧ (∀ p i, p < 5 → i < 8 → ¬ (p < bP β ∧ i < bN β) → bO β p i = 0) ∧ (∀ j, j < bH β → im 0 999 (bHe β j)) ∧ im 0 999 (bTe β 0) ∧ im 0 10 (bTe β 1) ∧ im 0 9 (bTe β 2)
/-- BROKEN, as the class' machine tells it -/
def ms_br (o : Option Int32) : Int32 := o.getD (-2147483648)
def ms_tb (o : Option Bool) : Int32 := match o with
  | none => -2147483648
  | some true => 1
  | some false => 0
/-- the program at cell p holds a LAW: over any heap that has these six cells, the machine tells of it what the LAW tells -/
def cvL (sh : List gb_Sh) (g : gb_G) (p : Nat) (lw : ms_L) : Prop := gb_okX7 sh p ∧ 105 ≤ p ∧ p + 5 < sh.length ∧ g.1 p 3 = Int32.ofNat lw.length ∧ gb_ln sh (p + 3) = lw.length ∧ ∀ (c : Nat) (q : Nat × ((Nat → Int32) → Option Int32) × ((Nat → Int32) → Option Bool)), lw[c]? = some q → g.1 (p + 3) c = Int32.ofNat q.1 ∧
  ∀ g' : gb_G, (∀ i, i < 6 → g'.1 (p + i) = g.1 (p + i)) → (∃ st : Nat → Int32, f_X5_run sh g' p (Int32.ofNat c) 0 55 9 = some (gb_pa g' 53 st, ms_br (q.2.1 (g'.1 55)))) ∧ (∃ st : Nat → Int32, f_X5_run sh g' p (Int32.ofNat c) 2 55 9 = some (gb_pa g' 53 st, ms_tb (q.2.2 (g'.1 55))))
/-- the Basket at cell b holds β -/
def cvB (sh : List gb_Sh) (g : gb_G) (b : Nat) (β : ms_B) : Prop := g.1 b 0 = Int32.ofNat (bN β) ∧ (∀ i j, i < bN β → j < 7 → g.1 (b + 1) (7 * i + j) = bT β i j) ∧ g.1 b 2 = Int32.ofNat (bP β) ∧ (∀ p i, p < 5 → i < 8 → g.1 (b + 2) (8 * p + i) = bO β p i) ∧ g.1 b 4 = Int32.ofNat (bH β) ∧ (∀ j, j < bH β → g.1 (b + 3) j = bHe β j) ∧ (∀ j, j < 3 → g.1 (b + 4) j = bTe β j) ∧ g.1 b 7 = Int32.ofNat (bL β).length ∧ (∀ (k : Nat) (lw : ms_L), (bL β)[k]? = some lw → ∃ p, g.2.2 (b + 5) k = some p ∧ cvL sh g p lw) ∧ g.1 b 9 = bF β
/-- does a CLAUSE HOLD -/
def ms_ho (q : Nat × ((Nat → Int32) → Option Int32) × ((Nat → Int32) → Option Bool)) (w : Nat → Int32) : Prop := q.2.2 w = some true ∧ (q.1 = 3 ∨ (q.2.1 w).isSome = true)
/-- what the reference's reckoning of a LAW may write -/
def frM (g g' : gb_G) : Prop := (∀ c k, ¬ (c = 77 ∧ k = 38) → g'.1 c k = g.1 c k) ∧ (∀ c k, ¬ (c = 97 ∨ (c = 77 ∧ (k = 39 ∨ k = 40))) → g'.2.1 c k = g.2.1 c k) ∧ g'.2.2 = g.2.2
/-- the row rho holds a LAW from a on -/
def mvL (rho : Nat → Int32) (a : Nat) (lw : ms_L) : Prop := rho (a + 1) = Int32.ofNat lw.length ∧ ∀ (c : Nat) (q : Nat × ((Nat → Int32) → Option Int32) × ((Nat → Int32) → Option Bool)), lw[c]? = some q → rho (a + 2 + 8 * c) = Int32.ofNat q.1 ∧
  ∀ (sh : List gb_Sh) (g : gb_G) (w : Nat → Int32), (∀ k, k < 900 → g.1 79 (a + k) = rho (a + k)) → g.1 77 34 = Int32.ofNat a → g.1 77 20 = 0 → (∀ j, j < 9 → g.2.1 95 (j + 1) = (w j).toInt64) → ∃ g' : gb_G, frM g g' ∧ ((ms_ho q w ∧ f_X11_isSo sh g (Int32.ofNat (a + 2 + 8 * c)) = some (g', 1) ∧ (q.1 ≠ 3 → ∃ v, q.2.1 w = some v ∧ g'.2.1 77 40 = v.toInt64)) ∨ (¬ ms_ho q w ∧ f_X11_isSo sh g (Int32.ofNat (a + 2 + 8 * c)) = some (g', 0)))
/-- the row rho holds a basket -/
def mvB (rho : Nat → Int32) (β : ms_B) : Prop := rho 0 = Int32.ofNat (bN β) ∧ (∀ i, i < bN β → rho (32 + i) = bT β i 0 ∧ rho (8 + i) = bT β i 1 ∧ rho (24 + i) = bT β i 2 ∧ rho (40 + i) = bT β i 3 ∧ rho (48 + i) = bT β i 4 ∧ rho (16 + i) = bT β i 5 ∧ rho (56 + i) = bT β i 6) ∧ rho 1 = Int32.ofNat (bP β) ∧ (∀ p i, p < bP β → i < bN β → rho (64 + 8 * p + i) = bO β p i) ∧ rho 2 = Int32.ofNat (bH β) ∧ (∀ j, j < bH β → rho (104 + j) = bHe β j) ∧ (∀ j, j < 3 → rho (5 + j) = bTe β j) ∧ rho 3 = Int32.ofNat (bL β).length ∧ (∀ (k : Nat) (lw : ms_L), (bL β)[k]? = some lw → mvL rho (120 + 900 * k) lw) ∧ rho 4 = bF β
/-- a change of kind k from what was ahead (te, nw, la, we) to what came, of a GOOD j -/
def ms_ch (n k j : Nat) (u v : (Nat → Int32) × (Nat → Int32) × (Nat → Int32) × (Nat → Int32)) : Prop :=
  (k ≤ 3) ∧ (k < 3 → j < n) ∧ (∀ i, i < 3 → ¬ (k = 3 ∧ i = 0) → v.1 i = u.1 i) ∧ (k = 3 → im 0 998 (u.1 0) ∧ v.1 0 = u.1 0 + 1) ∧ (∀ i, i < n → k ≠ 3 → v.2.1 i = u.2.1 i) ∧ (∀ i, i < n → ¬ (k < 2 ∧ i = j) → v.2.2.1 i = u.2.2.1 i) ∧ (k = 0 → u.2.2.1 j = 0 ∧ v.2.2.1 j = 1) ∧ (k = 1 → u.2.2.1 j = 1 ∧ v.2.2.1 j = 0) ∧ (∀ i, i < n → ¬ (k = 2 ∧ i = j) → v.2.2.2 i = u.2.2.2 i)
/-- the basket as a change finds it -/
def ms_sn (β : ms_B) : (Nat → Int32) × (Nat → Int32) × (Nat → Int32) × (Nat → Int32) := (bTe β, fun i => bT β i 1, fun i => bT β i 5, fun i => bT β i 2)
/-- what came behind the k-th change that can be undone -/
def ms_nx (σ : ms_S) (k : Nat) : (Nat → Int32) × (Nat → Int32) × (Nat → Int32) × (Nat → Int32) := match (sU σ)[k + 1]? with
  | some u => u.2
  | none => ms_sn (sB σ)
/-- the History at cell h holds what can be undone -/
def cvU (g : gb_G) (h : Nat) (n : Nat) (us : List ms_U) (nx : Nat → (Nat → Int32) × (Nat → Int32) × (Nat → Int32) × (Nat → Int32)) : Prop := g.1 h 0 = Int32.ofNat us.length ∧ ∀ (k : Nat) (u : ms_U), us[k]? = some u → g.1 (h + 1) k = Int32.ofNat u.1 ∧ ∃ j, ms_ch n u.1 j u.2 (nx k) ∧ (u.1 < 3 → g.1 (h + 2) k = Int32.ofNat j) ∧ (u.1 = 2 → g.1 (h + 3) k = u.2.2.2.2 j) ∧ (u.1 = 3 → ∀ i, i < n → g.1 (h + 4) (8 * k + i) = u.2.2.1 i)
/-- what holds of every state -/
def wfS (σ : ms_S) : Prop := wfB (sB σ) ∧ (∀ j β, sI σ j = some β → wfB β) ∧ (sU σ).length ≤ 16 ∧ (sT σ).length ≤ 400 ∧ (∀ b ∈ sT σ, im 0 255 b) ∧ (sD σ).1 ≤ 8
/-- the class holds σ -/
def cvS (sh : List gb_Sh) (g : gb_G) (σ : ms_S) : Prop := cvB sh g 1 (sB σ) ∧ g.2.2 19 0 = some 20 ∧ g.2.2 19 1 = some 26 ∧ (∀ j, j < 2 → (sI σ j = none ∧ g.1 32 j = 0) ∨ ∃ β, sI σ j = some β ∧ g.1 32 j = 1 ∧ cvB sh g (20 + 6 * j) β) ∧ cvU g 33 (bN (sB σ)) (sU σ) (ms_nx σ) ∧ g.1 43 1 = Int32.ofNat (sT σ).length ∧ (∀ j b, (sT σ)[j]? = some b → g.1 44 j = b) ∧ g.1 0 15 = sM σ 0 ∧ g.1 0 16 = sM σ 1 ∧ g.1 0 17 = sM σ 2 ∧ g.1 0 18 = sM σ 3 ∧ (∀ k, k < 7 → g.1 76 k = sR σ k) ∧ g.1 13 0 = Int32.ofNat (sD σ).1 ∧ (∀ i, i < (sD σ).1 → g.1 14 (7 * i + 1) = (sD σ).2.1 i ∧ g.1 14 (7 * i + 5) = (sD σ).2.2 i)
/-- the reference holds σ -/
def mvS (g : gb_G) (σ : ms_S) : Prop := mvB (g.1 79) (sB σ) ∧ (∀ j, j < 2 → (sI σ j = none ∧ g.1 81 j = 0) ∨ ∃ β, sI σ j = some β ∧ g.1 81 j = 1 ∧ mvB (fun k => g.1 80 (5520 * j + k)) β) ∧ g.1 77 8 = Int32.ofNat (sU σ).length ∧ (∀ (k : Nat) (u : ms_U), (sU σ)[k]? = some u → g.1 83 k = Int32.ofNat u.1 ∧ (∀ j, j < 3 → g.1 82 (27 * k + j) = u.2.1 j) ∧ ∀ i, i < bN (sB σ) → g.1 82 (27 * k + (3 + i)) = u.2.2.1 i ∧ g.1 82 (27 * k + (11 + i)) = u.2.2.2.1 i ∧ g.1 82 (27 * k + (19 + i)) = u.2.2.2.2 i) ∧ g.1 77 13 = Int32.ofNat (sT σ).length ∧ (∀ j b, (sT σ)[j]? = some b → g.1 86 j = b) ∧ g.1 77 18 = sM σ 0 ∧ g.1 77 11 = sM σ 1 ∧ g.1 77 51 = sM σ 2 ∧ g.1 77 1 = sM σ 3 ∧ (∀ k, k < 7 → g.1 78 k = sR σ k) ∧ g.1 77 20 = 0 ∧ (g.1 77 55 = Int32.ofNat (sD σ).1 ∨ (g.1 77 55 = -1 ∧ (sD σ).1 = 0)) ∧ (∀ i, i < (sD σ).1 → g.1 104 i = (sD σ).2.1 i ∧ g.1 104 (8 + i) = (sD σ).2.2 i)
/-- the reference's tables of words, which nobody writes -/
def mvC (g : gb_G) : Prop := (∀ k, k < 9 → g.2.1 92 k = [245220, 67173, 14839, 777297172, 241700, 12619123, 17171557, 14137992, 441828].getD k 0) ∧ (∀ k, k < 7 → g.2.1 93 k = [14137992, 146885, 404362868, 211015237, 12921972167, 14839, 777297172].getD k 0) ∧ (∀ k, k < 4 → g.2.1 94 k = [14145715, 117095059, 7734419, 67155].getD k 0) ∧ (∀ k, k < 4 → g.2.1 102 k = [394347, 206276, 24290536, 525939].getD k 0)
/-- THE INVARIANT -/
def gb_I (sh : List gb_Sh) (g : gb_G) : Prop := (gb_S sh ∧ 105 ≤ sh.length) ∧ mvC g ∧ ∃ σ : ms_S, wfS σ ∧ cvS sh g σ ∧ mvS g σ
