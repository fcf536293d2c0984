/-! ===== the reference's reader: must, inner, isCompared, turns ===== -/
theorem must_t {sh : List gb_Sh} {n s : Nat} {B : Nat → Int32} {g : gb_G} {x : Int32} (hn : n ≤ 400) (h : mS g n B s) (hb : g.1 77 19 = 0) (hx : ¬ x = 0) : ∃ o, f_X11_must sh g x = some o ∧ mS o n B (tn n B s) ∧ f_X11_next sh g = some o := by
  obtain ⟨o, e, p⟩ := next_m (sh := sh) hn h
  refine ⟨o, ?_, p, e⟩
  unfold f_X11_must f_X11_must_24
  rw [if_pos hb, if_neg hx, if_pos hb, e, gb_bd_s]
theorem must_f {sh : List gb_Sh} {n s : Nat} {B : Nat → Int32} {g : gb_G} (h : mS g n B s) (hb : g.1 77 19 = 0) : f_X11_must sh g 0 = some (gb_pi (gb_pi g 77 19 1) 77 18 (Int32.ofNat s)) := by
  unfold f_X11_must f_X11_must_24
  rw [if_pos hb, if_pos rfl, gb_let_s, gb_let_s, show (gb_pi g 77 19 1).1 77 14 = Int32.ofNat s from (pi_n (by omega)).trans h.2.2.1, show (gb_pi (gb_pi g 77 19 1) 77 18 (Int32.ofNat s)).1 77 19 = 1 from (pi_n (by omega)).trans pi_e, if_neg (by decide)]
/-- the innermost bracket -/
def inv (P : Pl) : Int32 := match P with
  | [] => -1
  | q :: r => if 31 ≤ q.1 then Int32.ofNat q.1 else inv r
theorem inn4 {sh : List gb_Sh} {g : gb_G} {T : Nat} (hT : g.1 77 29 = Int32.ofNat T) (hT4 : T ≤ 400) : ∀ (P : Pl) (F : Nat), PS g P → okP P → P.length ≤ T → f_X11_inner_4 sh (F + P.length) g (-1) (Int32.ofNat 0) = f_X11_inner_4 sh F g (inv P) (Int32.ofNat P.length) := by
  intro P
  induction P with
  | nil => intro F _ _ _; rfl
  | cons q r ih =>
    intro F h1 h2 h3
    rw [List.length_cons] at h3
    have hq := h2 q (List.mem_cons_self ..)
    rw [List.length_cons, show F + (r.length + 1) = (F + 1) + r.length by omega, ih (F + 1) h1.2.2 (fun v hv => h2 v (List.mem_cons_of_mem _ hv)) (by omega), f_X11_inner_4, hT, if_neg (by rw [o_le (by omega) (by omega)]; omega), gb_ck_s (o_in (by omega) (by omega)), o_cl (by omega), h1.1]
    unfold f_X11_inner_33
    simp only []
    rw [show inv (q :: r) = if 31 ≤ q.1 then Int32.ofNat q.1 else inv r from rfl]
    by_cases z : 31 ≤ q.1
    · rw [if_neg (by rw [show (31 : Int32) = Int32.ofNat 31 from rfl, o_lt (by omega) (by omega)]; omega), gb_ck_s (o_in (by omega) (by omega)), if_pos z, o_succ]
    · rw [if_pos (by rw [show (31 : Int32) = Int32.ofNat 31 from rfl, o_lt (by omega) (by omega)]; omega), if_neg z, o_succ]
theorem inn_m {sh : List gb_Sh} {g : gb_G} {P : Pl} (h : plE g P) (h2 : okP P) (h4 : P.length ≤ 400) : f_X11_inner sh g = some (g, inv P) := by
  unfold f_X11_inner
  have k := inn4 (sh := sh) h.1 h4 P (999999 - P.length + 1) h.2 h2 (Nat.le_refl _)
  rw [show 999999 - P.length + 1 + P.length = gb_N by rw [show gb_N = 1000000 from rfl]; omega] at k
  refine k.trans ?_
  rw [f_X11_inner_4, h.1, if_pos (by rw [o_le (by omega) (by omega)]; omega)]
/-- a comparison stands ahead of the SUM -/
def cmpd (P : Pl) : Prop := match P with
  | [] => False
  | q :: r => if 20 ≤ q.1 ∧ q.1 ≤ 24 then cmpd r else 25 ≤ q.1 ∧ q.1 ≤ 27
theorem inO {sh : List gb_Sh} {g : gb_G} {a lo hi : Nat} (ha : a < 100) (hl : lo < 100) (hh : hi < 100) : f_X11_in sh g (Int32.ofNat a).toInt64 (Int64.ofNat lo) (Int64.ofNat hi) = some (g, if lo ≤ a ∧ a ≤ hi then 1 else 0) := by
  by_cases q : lo ≤ a ∧ a ≤ hi
  · rw [if_pos q]; exact in_t (lo := lo) (hi := hi) (by rw [im, o_int (by omega)]; omega) (l_int (by omega)) (l_int (by omega))
  · rw [if_neg q]; exact in_f (lo := lo) (hi := hi) (by rw [im, o_int (by omega)]; omega) (l_int (by omega)) (l_int (by omega))
theorem cmp7 {sh : List gb_Sh} {g : gb_G} : ∀ (P : Pl) (F : Nat), PS g P → okP P → P.length ≤ 400 → ∃ v : Int32, f_X11_isCompared_7 sh (F + P.length + 1) g (Int32.ofNat P.length - 1) = some (g, v) ∧ ((v = 0 ∧ ¬ cmpd P) ∨ (v = 1 ∧ cmpd P)) := by
  intro P
  induction P with
  | nil =>
    intro F _ _ _
    refine ⟨0, ?_, Or.inl ⟨rfl, fun z => z⟩⟩
    rw [f_X11_isCompared_7, if_pos (by decide)]
    unfold f_X11_isCompared_36
    rw [if_pos (by decide)]
  | cons q r ih =>
    intro F h1 h2 h3
    rw [List.length_cons] at h3
    have hq := h2 q (List.mem_cons_self ..)
    rw [List.length_cons, o_pred, show F + (r.length + 1) + 1 = (F + r.length + 1) + 1 by omega, f_X11_isCompared_7, if_neg (by rw [show (0 : Int32) = Int32.ofNat 0 from rfl, o_lt (by omega) (by omega)]; omega), gb_ck_s (o_in (by omega) (by omega)), o_cl (by omega), h1.1, show (20 : Int64) = Int64.ofNat 20 from rfl, show (24 : Int64) = Int64.ofNat 24 from rfl, inO (by omega) (by omega) (by omega)]
    rw [show cmpd (q :: r) = if 20 ≤ q.1 ∧ q.1 ≤ 24 then cmpd r else 25 ≤ q.1 ∧ q.1 ≤ 27 from rfl]
    by_cases z : 20 ≤ q.1 ∧ q.1 ≤ 24
    · rw [if_pos z, if_pos z, bt, show Int32.ofNat r.length + -1 = Int32.ofNat r.length - 1 from by rw [Int32.sub_eq_add_neg]]
      exact ih F h1.2.2 (fun v hv => h2 v (List.mem_cons_of_mem _ hv)) (by omega)
    · rw [if_neg z, if_neg z, bf]
      unfold f_X11_isCompared_36
      simp only []
      rw [if_neg (by rw [show (0 : Int32) = Int32.ofNat 0 from rfl, o_lt (by omega) (by omega)]; omega), gb_ck_s (o_in (by omega) (by omega)), o_cl (by omega), h1.1, show (25 : Int64) = Int64.ofNat 25 from rfl, show (27 : Int64) = Int64.ofNat 27 from rfl, inO (by omega) (by omega) (by omega)]
      by_cases y : 25 ≤ q.1 ∧ q.1 ≤ 27
      · rw [if_pos y, bt]; exact ⟨1, rfl, Or.inr ⟨rfl, y⟩⟩
      · rw [if_neg y, bf]; exact ⟨0, rfl, Or.inl ⟨rfl, y⟩⟩
theorem cmp_m {sh : List gb_Sh} {g : gb_G} {P : Pl} (h : plE g P) (h2 : okP P) (h4 : P.length ≤ 400) : ∃ v : Int32, f_X11_isCompared sh g = some (g, v) ∧ ((v = 0 ∧ ¬ cmpd P) ∨ (v = 1 ∧ cmpd P)) := by
  unfold f_X11_isCompared
  obtain ⟨v, e, p⟩ := cmp7 (sh := sh) P (999999 - P.length) h.2 h2 h4
  refine ⟨v, ?_, p⟩
  rw [show 999999 - P.length + P.length + 1 = gb_N by rw [show gb_N = 1000000 from rfl]; omega] at e
  rw [h.1]; exact e
/-- the reference reads: place s, l PARTS, code, pile, d brackets -/
def RSt (n : Nat) (B : Nat → Int32) (ord : Bool) (g : gb_G) (s l : Nat) (cd : Cd) (P : Pl) (d : Nat) : Prop := mS g n B s ∧ g.1 77 19 = 0 ∧ g.1 77 20 = (if ord = true then 1 else 0) ∧ g.1 77 26 = Int32.ofNat l ∧ g.1 77 30 = Int32.ofNat d ∧ cdE g cd ∧ plE g P ∧ okP P ∧ mvC g ∧ cd.1 + P.length ≤ s ∧ l ≤ 50 ∧ d ≤ 8
noncomputable abbrev rL (sh : List gb_Sh) (f : Nat) (g : gb_G) (y1 t : Int32) : Option gb_G := f_X11_readExpression_20 sh f g y1 t
/-- the reading ends with a FAULT -/
def RB (o : gb_G) (p : Nat) : Prop := o.1 77 19 = 1 ∧ o.1 77 18 = Int32.ofNat p
theorem r_bad {sh : List gb_Sh} {g : gb_G} {P : Pl} {cd : Cd} {p : Nat} {y1 t : Int32} (hb : RB g p) (h1 : plE g P) (h2 : cdE g cd) (h3 : okP P) (h4 : cd.1 + P.length ≤ 400) : ∃ o, RB o p ∧ ∀ f, 1 ≤ f → rL sh f g y1 t = some o := by
  obtain ⟨o, e, -⟩ := set_m (sh := sh) (lv := 1) (by omega) h1 h2 h3 h4
  have F := w_X11_settle e
  refine ⟨o, ⟨(F 77 19 (by omega)).1.trans hb.1, (F 77 18 (by omega)).1.trans hb.2⟩, fun f hf => ?_⟩
  obtain ⟨f', rfl⟩ : ∃ f', f = f' + 1 := ⟨f - 1, by omega⟩
  show f_X11_readExpression_20 sh (f' + 1) g y1 t = some o
  rw [f_X11_readExpression_20, hb.1, if_neg (by decide)]
  unfold f_X11_readExpression_76
  rw [show (1 : Int32) = Int32.ofNat 1 from rfl, e, gb_bd_s]
theorem l_pt {sh : List gb_Sh} {g : gb_G} {y1 : Int32} {f : Nat} {r : gb_G × Int32} (hb : g.1 77 19 = 0) (e : f_X11_readPart sh g = some r) : rL sh (f + 1) g y1 1 = rL sh f r.1 y1 r.2 := by
  show f_X11_readExpression_20 sh (f + 1) g y1 1 = _
  rw [f_X11_readExpression_20, if_pos hb, if_neg (by decide), if_neg (by decide), if_pos rfl, e, gb_bd_s]; rfl
theorem l_pl {sh : List gb_Sh} {g : gb_G} {y1 : Int32} {f : Nat} {r : gb_G × Int32} (hb : g.1 77 19 = 0) (e : f_X11_readPlain sh g = some r) : rL sh (f + 1) g y1 0 = rL sh f r.1 y1 r.2 := by
  show f_X11_readExpression_20 sh (f + 1) g y1 0 = _
  rw [f_X11_readExpression_20, if_pos hb, if_neg (by decide), if_pos rfl, e, gb_bd_s]; rfl
theorem l_bs {sh : List gb_Sh} {g : gb_G} {y1 : Int32} {f : Nat} {r : gb_G × Int32} (hb : g.1 77 19 = 0) (e : f_X11_behindSum sh g y1 = some r) : rL sh (f + 1) g y1 3 = rL sh f r.1 y1 r.2 := by
  show f_X11_readExpression_20 sh (f + 1) g y1 3 = _
  rw [f_X11_readExpression_20, if_pos hb, if_neg (by decide), if_neg (by decide), if_neg (by decide), if_pos rfl, e, gb_bd_s]; rfl
theorem l_bt {sh : List gb_Sh} {g : gb_G} {y1 : Int32} {f : Nat} {r : gb_G × Int32} (hb : g.1 77 19 = 0) (e : f_X11_behindTest sh g = some r) : rL sh (f + 1) g y1 2 = rL sh f r.1 y1 r.2 := by
  show f_X11_readExpression_20 sh (f + 1) g y1 2 = _
  rw [f_X11_readExpression_20, if_pos hb, if_neg (by decide), if_neg (by decide), if_neg (by decide), if_neg (by decide), e, gb_bd_s]; rfl
theorem tn_l {n s : Nat} {B : Nat → Int32} {w : List Int32} (hs : s ≤ n) (hw : 0 < w.length) (h : wq (stp n B s) B s w = true) : s < tn n B s := (tn_b hs).2.2 (wqn hs hw h).1
