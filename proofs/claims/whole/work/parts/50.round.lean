/-! ===== round: sets by their bits, the fewest steps ===== -/
def xb (x : Int32) (i : Nat) : Bool := x.toBitVec.getLsbD i
theorem xb_ext {x y : Int32} (h : ∀ i, i < 32 → xb x i = xb y i) : x = y := Int32.toBitVec_inj.mp (BitVec.eq_of_getLsbD_eq fun i hi => h i hi)
theorem xb_and (x y : Int32) (i : Nat) : xb (x &&& y) i = (xb x i && xb y i) := by unfold xb; rw [Int32.toBitVec_and, BitVec.getLsbD_and]
theorem xb_xor (x y : Int32) (i : Nat) : xb (x ^^^ y) i = (xb x i ^^ xb y i) := by unfold xb; rw [Int32.toBitVec_xor, BitVec.getLsbD_xor]
theorem xb_m1 : ∀ i, i < 32 → xb (-1) i = true := by decide +kernel
theorem xb_0 (i : Nat) : xb 0 i = false := BitVec.getLsbD_zero
theorem xb_n {s i : Nat} (hi : i < 32) : xb (Int32.ofNat s) i = s.testBit i := by
  show (BitVec.ofNat 32 s).getLsbD i = _
  rw [BitVec.getLsbD_ofNat, decide_eq_true hi, Bool.true_and]
theorem sb_t {s i : Nat} : sb s i = 1 ↔ s.testBit i = true := by
  rw [Nat.testBit_eq_decide_div_mod_eq, decide_eq_true_iff]
  rfl
theorem tb_8 {s i : Nat} (hs : s < 256) (hi : 8 ≤ i) : s.testBit i = false := Nat.testBit_lt_two_pow (Nat.lt_of_lt_of_le hs (Nat.pow_le_pow_right (by omega) hi : 2 ^ 8 ≤ 2 ^ i))
def sub8 (t W : Nat) : Prop := ∀ i, i < 8 → sb t i = 1 → sb W i = 1
theorem s_and {t W : Nat} (ht : t < 256) (hW : W < 256) : Int32.ofNat t &&& Int32.ofNat W = Int32.ofNat t ↔ sub8 t W := by
  constructor
  · intro h i hi q
    have e := congrArg (fun z => xb z i) h
    simp only [xb_and, xb_n (show i < 32 by omega)] at e
    rw [sb_t] at q ⊢
    rw [q, Bool.true_and] at e
    exact e
  · intro h
    refine xb_ext fun i hi => ?_
    rw [xb_and, xb_n hi, xb_n hi]
    by_cases h8 : i < 8
    · cases e : t.testBit i with
      | false => rfl
      | true => rw [sb_t.1 (h i h8 (sb_t.2 e))]; rfl
    · rw [tb_8 ht (by omega)]; rfl
theorem s_dif {t W : Nat} (ht : t < 256) (hW : W < 256) : Int32.ofNat t &&& (Int32.ofNat W ^^^ (-1)) = 0 ↔ sub8 t W := by
  constructor
  · intro h i hi q
    have e := congrArg (fun z => xb z i) h
    simp only [xb_and, xb_xor, xb_n (show i < 32 by omega), xb_0, xb_m1 i (by omega)] at e
    rw [sb_t] at q ⊢
    rw [q, Bool.true_and] at e
    cases e2 : W.testBit i with
    | true => rfl
    | false => rw [e2] at e; exact absurd e (by decide)
  · intro h
    refine xb_ext fun i hi => ?_
    rw [xb_and, xb_xor, xb_n hi, xb_n hi, xb_0, xb_m1 i hi]
    by_cases h8 : i < 8
    · cases e : t.testBit i with
      | false => rfl
      | true => rw [sb_t.1 (h i h8 (sb_t.2 e))]; rfl
    · rw [tb_8 ht (by omega)]; rfl
theorem s_out {t W : Nat} (ht : t < 256) (hW : W < 256) : ∃ d, d < 256 ∧ Int32.ofNat W &&& (Int32.ofNat t ^^^ (-1)) = Int32.ofNat d ∧ ∀ i, i < 8 → (sb d i = 1 ↔ sb W i = 1 ∧ ¬ sb t i = 1) := by
  refine ⟨W &&& (255 ^^^ t), Nat.lt_of_le_of_lt Nat.and_le_left hW, xb_ext fun i hi => ?_, fun i hi => ?_⟩
  · rw [xb_and, xb_xor, xb_n hi, xb_n hi, xb_n hi, xb_m1 i hi, Nat.testBit_and, Nat.testBit_xor]
    by_cases h8 : i < 8
    · have e : Nat.testBit 255 i = true := (by decide +kernel : ∀ i, i < 8 → Nat.testBit 255 i = true) i h8
      rw [e, Bool.xor_comm]
    · rw [tb_8 hW (by omega)]; rfl
  · have e : Nat.testBit 255 i = true := (by decide +kernel : ∀ i, i < 8 → Nat.testBit 255 i = true) i hi
    rw [sb_t, sb_t, sb_t, Nat.testBit_and, Nat.testBit_xor, e]
    cases W.testBit i <;> cases t.testBit i <;> decide
theorem s_rm : ∀ s, s < 256 → ∀ g, g < 8 → sb s g = 1 → Int32.ofNat s &&& (((1 : Int32) <<< (Int32.ofNat g &&& 31)) ^^^ (-1)) = Int32.ofNat (s - 2 ^ g) ∧ 2 ^ g ≤ s := by decide +kernel
theorem s_bt : ∀ g, g < 8 → ∀ s, s < 256 → sb s g = 1 → ∀ i, i < 8 → sb (s - 2 ^ g) i = if i = g then 0 else sb s i := by decide +kernel
theorem s_ad : ∀ k, k < 8 → ∀ s, s < 256 → s < 2 ^ k → (∀ i, i < 8 → sb (s + 2 ^ k) i = if i = k then 1 else sb s i) ∧ s + 2 ^ k < 256 ∧ s + 2 ^ k < 2 ^ (k + 1) ∧ Int32.ofNat s ||| ((1 : Int32) <<< (Int32.ofNat k &&& 31)) = Int32.ofNat (s + 2 ^ k) := by decide +kernel
theorem s_ex : ∀ s, s < 256 → ¬ s = 0 → ∃ g, g < 8 ∧ sb s g = 1 := by decide +kernel
theorem pw1 (g : Nat) : 1 ≤ 2 ^ g := Nat.one_le_two_pow
/-! steps -/
def stN (p q : Nat) : Nat := (p % 5 - q % 5) + (q % 5 - p % 5) + ((p / 5 - q / 5) + (q / 5 - p / 5))
theorem stN_e : ∀ p, p < 25 → ∀ q, q < 25 → ms_abs (gb_rem (Int32.ofNat p) 5 - gb_rem (Int32.ofNat q) 5) + ms_abs (Int32.ofNat p / 5 - Int32.ofNat q / 5) = Int32.ofNat (stN p q) ∧ stN p q ≤ 8 := by decide +kernel
theorem sB_c {sh : List gb_Sh} {g : gb_G} {p q : Nat} (hp : p < 25) (hq : q < 25) : f_X6_stepsBetween sh g (Int32.ofNat p) (Int32.ofNat q) = some (g, Int32.ofNat (stN p q)) := by
  have ab : ∀ x : Int32, f_J9_abs_0f7a4 sh g x = some (g, ms_abs x) := fun x => by
    unfold f_J9_abs_0f7a4 ms_abs
    split <;> rfl
  unfold f_X6_stepsBetween
  rw [ab, gb_bd_s]
  simp only []
  rw [ab, gb_bd_s]
  simp only []
  rw [(stN_e p hp q hq).1]
theorem sO_m {sh : List gb_Sh} {g : gb_G} {p q : Nat} (hp : p < 25) (hq : q < 25) : f_X11_stepsOf sh g (Int32.ofNat p) (Int32.ofNat q) = some (g, Int32.ofNat (stN p q)) := by
  rw [← (stN_e p hp q hq).1]
  unfold f_X11_stepsOf f_X11_stepsOf_26 ms_abs
  by_cases c1 : 0 ≤ gb_rem (Int32.ofNat p) 5 - gb_rem (Int32.ofNat q) 5
  · rw [if_pos c1, if_pos c1]
    by_cases c2 : 0 ≤ Int32.ofNat p / 5 - Int32.ofNat q / 5
    · rw [if_pos c2, if_pos c2]
    · rw [if_neg c2, if_neg c2]
  · rw [if_neg c1, if_neg c1]
    by_cases c2 : 0 ≤ Int32.ofNat p / 5 - Int32.ofNat q / 5
    · rw [if_pos c2, if_pos c2]
    · rw [if_neg c2, if_neg c2]
/-! the fewest steps from a place through a set -/
theorem mnv_c {c c' : Nat → Nat} : ∀ j, (∀ i, i < j → c i = c' i) → mnv c j = mnv c' j := by
  intro j
  induction j with
  | zero => intro _; rfl
  | succ j ih => intro h; rw [mnv, mnv, ih (fun i hi => h i (by omega)), h j (by omega)]
theorem mnv_b {c : Nat → Nat} : ∀ j, mnv c j ≤ 100000000 := by
  intro j
  induction j with
  | zero => exact Nat.le_refl _
  | succ j ih => rw [mnv]; split <;> omega
theorem mnv_x {c : Nat → Nat} {n : Nat} : ∀ d, (∀ i, n ≤ i → i < n + d → c i = 100000000) → mnv c (n + d) = mnv c n := by
  intro d
  induction d with
  | zero => intro _; rfl
  | succ d ih =>
    intro h
    rw [← Nat.add_assoc, mnv, ih (fun i h1 h2 => h i h1 (by omega)), h (n + d) (by omega) (by omega), if_neg]
    have := mnv_b (c := c) n
    omega
def cR (pl : Nat → Nat) (F : Nat → Nat → Nat) (s p g : Nat) : Nat := if sb s g = 1 then stN p (pl g) + F (s - 2 ^ g) (pl g) else 100000000
def FdR (pl : Nat → Nat) : Nat → Nat → Nat → Nat
  | 0, _, _ => 0
  | f + 1, s, p => if s = 0 then 0 else mnv (cR pl (FdR pl f) s p) 8
theorem fd_ir {pl : Nat → Nat} : ∀ f f' s p, s ≤ f → s ≤ f' → FdR pl f s p = FdR pl f' s p := by
  intro f
  induction f with
  | zero =>
    intro f' s p h _
    have e : s = 0 := by omega
    subst e
    cases f' with
    | zero => rfl
    | succ f' => rw [FdR, FdR, if_pos rfl]
  | succ f ih =>
    intro f' s p h h'
    by_cases e : s = 0
    · subst e
      cases f' with
      | zero => rw [FdR, FdR, if_pos rfl]
      | succ f' => rw [FdR, FdR, if_pos rfl, if_pos rfl]
    · cases f' with
      | zero => omega
      | succ f' =>
        rw [FdR, FdR, if_neg e, if_neg e]
        refine mnv_c 8 fun i hi => ?_
        unfold cR
        have := pw1 i
        rw [ih f' (s - 2 ^ i) (pl i) (by omega) (by omega)]
def FS (pl : Nat → Nat) (s p : Nat) : Nat := FdR pl 256 s p
theorem FS_0 {pl : Nat → Nat} {p : Nat} : FS pl 0 p = 0 := by
  unfold FS
  rw [FdR, if_pos rfl]
theorem FS_s {pl : Nat → Nat} {s p : Nat} (hs : s < 256) (h : ¬ s = 0) : FS pl s p = mnv (cR pl (FS pl) s p) 8 := by
  show FdR pl 256 s p = _
  rw [FdR, if_neg h]
  refine mnv_c 8 fun i hi => ?_
  unfold cR FS
  have := pw1 i
  rw [fd_ir 255 256 (s - 2 ^ i) (pl i) (by omega) (by omega)]
theorem fdm_le {c : Nat → Nat} : ∀ j i, i < j → mnv c j ≤ c i := by
  intro j
  induction j with
  | zero => intro i hi; omega
  | succ j ih =>
    intro i hi
    rw [mnv]
    by_cases e : i = j
    · subst e; split <;> omega
    · have := ih i (by omega); split <;> omega
theorem FS_b {pl : Nat → Nat} (hpl : ∀ i, pl i ≤ 24) : ∀ s, s < 256 → ∀ p, p ≤ 24 → FS pl s p ≤ 8 * s := by
  intro s
  induction s using Nat.strongRecOn with
  | _ s ih =>
    intro hs p hp
    by_cases e : s = 0
    · subst e; rw [FS_0]; omega
    · rw [FS_s hs e]
      obtain ⟨g, hg, hb⟩ := s_ex s hs e
      have h1 := fdm_le (c := cR pl (FS pl) s p) 8 g hg
      have h2 := (s_rm s hs g hg hb).2
      have h3 := pw1 g
      have h4 := ih (s - 2 ^ g) (by omega) (by omega) (pl g) (hpl g)
      have h5 := (stN_e p (by omega) (pl g) (by have := hpl g; omega)).2
      have e2 : cR pl (FS pl) s p g = stN p (pl g) + FS pl (s - 2 ^ g) (pl g) := if_pos hb
      omega
theorem cR_b {pl : Nat → Nat} {s p g : Nat} (hpl : ∀ i, pl i ≤ 24) (hs : s < 256) (hp : p ≤ 24) (hg : sb s g = 1) : cR pl (FS pl) s p g ≤ 2048 := by
  have h3 : s - 2 ^ g ≤ s := Nat.sub_le _ _
  have h4 := FS_b hpl (s - 2 ^ g) (by omega) (pl g) (hpl g)
  have h5 := (stN_e p (by omega) (pl g) (by have := hpl g; omega)).2
  have e2 : cR pl (FS pl) s p g = stN p (pl g) + FS pl (s - 2 ^ g) (pl g) := if_pos hg
  omega
theorem cR_n {pl : Nat → Nat} {s p g : Nat} (hg : ¬ sb s g = 1) : cR pl (FS pl) s p g = 100000000 := if_neg hg
def aR (pl : Nat → Nat) (s p : Nat) : Nat := fmi (cR pl (FS pl) s p) 7
theorem aR_8 {pl : Nat → Nat} {s p : Nat} : aR pl s p < 8 := by
  have := fm_le (c := cR pl (FS pl) s p) 7
  unfold aR
  omega
theorem aR_m {pl : Nat → Nat} {s p : Nat} (hpl : ∀ i, pl i ≤ 24) (hs : s < 256) (hp : p ≤ 24) (h : ¬ s = 0) : sb s (aR pl s p) = 1 := by
  obtain ⟨g, hg, hb⟩ := s_ex s hs h
  have h1 := fm_min (c := cR pl (FS pl) s p) 7 g (by omega)
  have h2 := cR_b hpl hs hp hb
  rcases sb_01 s (aR pl s p) with e | e
  · have h3 : cR pl (FS pl) s p (aR pl s p) = 100000000 := cR_n (by omega)
    have h4 : cR pl (FS pl) s p (aR pl s p) ≤ cR pl (FS pl) s p g := h1
    omega
  · exact e
theorem FS_a {pl : Nat → Nat} {s p : Nat} (hpl : ∀ i, pl i ≤ 24) (hs : s < 256) (hp : p ≤ 24) (h : ¬ s = 0) : FS pl s p = cR pl (FS pl) s p (aR pl s p) ∧ FS pl s p = stN p (pl (aR pl s p)) + FS pl (s - 2 ^ aR pl s p) (pl (aR pl s p)) := by
  have e : FS pl s p = cR pl (FS pl) s p (aR pl s p) := by
    rw [FS_s hs h]
    refine mn_fm 7 fun i hi => ?_
    by_cases q : sb s i = 1
    · have := cR_b (p := p) hpl hs hp q; omega
    · rw [cR_n q]; omega
  refine ⟨e, e.trans (if_pos (aR_m hpl hs hp h))⟩
/-! how many are in a set -/
def pc (s : Nat) : Nat := nsum (sb s) 8
theorem pc_b (s : Nat) : pc s ≤ 8 := by
  have := nsum_b (f := sb s) (M := 1) 8 fun i _ => by rcases sb_01 s i with e | e <;> omega
  unfold pc
  omega
theorem pc_0 : ∀ s, s < 256 → (pc s = 0 ↔ s = 0) := by decide +kernel
theorem pc_r : ∀ g, g < 8 → ∀ s, s < 256 → sb s g = 1 → pc (s - 2 ^ g) + 1 = pc s := by decide +kernel
/-- the way: what is left, and where one is, behind k steps -/
def pth (pl : Nat → Nat) (W p : Nat) : Nat → Nat × Nat
  | 0 => (W, p)
  | k + 1 => ((pth pl W p k).1 - 2 ^ aR pl (pth pl W p k).1 (pth pl W p k).2, pl (aR pl (pth pl W p k).1 (pth pl W p k).2))
theorem pth_b {pl : Nat → Nat} {W p : Nat} (hpl : ∀ i, pl i ≤ 24) (hW : W < 256) (hp : p ≤ 24) : ∀ k, (pth pl W p k).1 < 256 ∧ (pth pl W p k).2 ≤ 24 := by
  intro k
  induction k with
  | zero => exact ⟨hW, hp⟩
  | succ k ih => exact ⟨Nat.lt_of_le_of_lt (Nat.sub_le _ _) ih.1, hpl _⟩
theorem pth_p {pl : Nat → Nat} {W p : Nat} (hpl : ∀ i, pl i ≤ 24) (hW : W < 256) (hp : p ≤ 24) : ∀ k, k ≤ pc W → pc (pth pl W p k).1 + k = pc W := by
  intro k
  induction k with
  | zero => intro _; rfl
  | succ k ih =>
    intro hk
    have e := ih (by omega)
    obtain ⟨b1, b2⟩ := pth_b hpl hW hp k
    have hz : ¬ (pth pl W p k).1 = 0 := fun z => by rw [(pc_0 _ b1).2 z] at e; omega
    have := pc_r _ aR_8 _ b1 (aR_m hpl b1 b2 hz)
    show pc ((pth pl W p k).1 - 2 ^ aR pl (pth pl W p k).1 (pth pl W p k).2) + (k + 1) = pc W
    omega
theorem pth_s {pl : Nat → Nat} {W p : Nat} (hpl : ∀ i, pl i ≤ 24) (hW : W < 256) (hp : p ≤ 24) : ∀ k, sub8 (pth pl W p k).1 W := by
  intro k
  induction k with
  | zero => intro i _ h; exact h
  | succ k ih =>
    intro i hi h
    obtain ⟨b1, b2⟩ := pth_b hpl hW hp k
    by_cases hz : (pth pl W p k).1 = 0
    · have h' : sb ((pth pl W p k).1 - 2 ^ aR pl (pth pl W p k).1 (pth pl W p k).2) i = 1 := h
      rw [hz, Nat.zero_sub] at h'
      exact ih i hi (by rw [hz]; exact h')
    · have e := s_bt _ aR_8 _ b1 (aR_m hpl b1 b2 hz) i hi
      have h' : sb ((pth pl W p k).1 - 2 ^ aR pl (pth pl W p k).1 (pth pl W p k).2) i = 1 := h
      rw [e] at h'
      split at h'
      · omega
      · exact ih i hi h'
