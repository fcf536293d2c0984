/-! ===== CLAUSES: the reference reads so ===== -/
theorem mS_e {g g' : gb_G} {n t : Nat} {B : Nat → Int32} (h : mS g n B t) (e : ∀ c k, (c = 77 ∧ 13 ≤ k ∧ k ≤ 17) ∨ c = 86 → eqc g g' c k) : mS g' n B t := by
  obtain ⟨⟨h1, h1'⟩, h2, h3, h4, h5, h6⟩ := h
  exact ⟨⟨(e _ _ (by omega)).1.trans h1, fun j hj => (e _ _ (by omega)).1.trans (h1' j hj)⟩, h2, (e _ _ (by omega)).1.trans h3, (e _ _ (by omega)).1.trans h4, (e _ _ (by omega)).1.trans h5, (e _ _ (by omega)).2.1.trans h6⟩
theorem eqpi {g : gb_G} {c k c' k' : Nat} {x : Int32} (h : ¬ (c' = c ∧ k' = k)) : eqc g (gb_pi g c k x) c' k' := ⟨pi_n h, rfl, rfl⟩
theorem eqc_tr {a b d : gb_G} {c k : Nat} (h : eqc a b c k) (h' : eqc b d c k) : eqc a d c k := ⟨h'.1.trans h.1, h'.2.1.trans h.2.1, h'.2.2.trans h.2.2⟩
/-- the reference between expressions -/
def RY (n : Nat) (B : Nat → Int32) (ord : Bool) (g : gb_G) (s l : Nat) (cd : Cd) : Prop := mS g n B s ∧ g.1 77 19 = 0 ∧ g.1 77 20 = (if ord = true then 1 else 0) ∧ g.1 77 26 = Int32.ofNat l ∧ cdE g cd ∧ mvC g ∧ cd.1 ≤ s ∧ l ≤ 50
theorem RY_fr {n s s' l : Nat} {B : Nat → Int32} {ord : Bool} {g g' : gb_G} {cd : Cd} (h : RY n B ord g s l cd) (h2 : mS g' n B s') (hs : s ≤ s') (e : ∀ c k, (c = 77 ∧ (k = 19 ∨ k = 20 ∨ k = 23 ∨ k = 26)) ∨ c = 88 ∨ c = 89 ∨ (92 ≤ c ∧ c ≤ 94) ∨ c = 102 → eqc g g' c k) : RY n B ord g' s' l cd := by
  obtain ⟨a1, a2, a3, a4, ⟨b1, b2, b3⟩, a6, a7, a8⟩ := h
  exact ⟨h2, (e _ _ (by omega)).1.trans a2, (e _ _ (by omega)).1.trans a3, (e _ _ (by omega)).1.trans a4, ⟨(e _ _ (by omega)).1.trans b1, (funext fun k => (e 88 k (by omega)).1).trans b2, (funext fun k => (e 89 k (by omega)).1).trans b3⟩, mvC_fr a6 fun c k q => e c k (by omega), by omega, a8⟩
theorem RY_X {n s l : Nat} {B : Nat → Int32} {ord : Bool} {g : gb_G} {cd : Cd} (h : RY n B ord g s l cd) : RX n B ord g s l cd := by
  have E : ∀ c k, ¬ (c = 77 ∧ (k = 29 ∨ k = 30)) → eqc g (gb_pi (gb_pi g 77 29 0) 77 30 0) c k := fun c k q => eqc_tr (eqpi (by omega)) (eqpi (by omega))
  obtain ⟨a1, a2, a3, a4, a5, a6, a7, a8⟩ := RY_fr h (mS_e h.1 fun c k q => E c k (by omega)) (Nat.le_refl _) fun c k q => E c k (by omega)
  exact ⟨a1, a2, a3, a4, pi_e, a5, ⟨(pi_n (by omega)).trans pi_e, trivial⟩, (fun q hq => by cases hq), a6, a7, a8, by omega⟩
theorem RY_S {n s l : Nat} {B : Nat → Int32} {ord : Bool} {g : gb_G} {cd : Cd} (h : RSt n B ord g s l cd [] 0) : RY n B ord g s l cd := by
  obtain ⟨a1, a2, a3, a4, a5, a6, a7, a8, a9, a10, a11, a12⟩ := h
  exact ⟨a1, a2, a3, a4, a6, a9, a10, a11⟩
def pR (ord : Bool) (O A : Nat → Int32) (nw a e : Nat) : Option Den → Prop
  | none => a = e
  | some D => a < e ∧ ∃ k, k ≤ 50 ∧ XR ord O A nw a e k D
theorem pR_le {ord : Bool} {O A : Nat → Int32} {nw a e : Nat} {d : Option Den} (h : pR ord O A nw a e d) : a ≤ e := by
  cases d with
  | none => exact Nat.le_of_eq h
  | some D => exact Nat.le_of_lt h.1
theorem pR_eq {ord : Bool} {O A O' A' : Nat → Int32} {nw a e : Nat} {d : Option Den} (h : pR ord O A nw a e d) (q : ∀ i, a ≤ i → i < e → O' i = O i ∧ A' i = A i) : pR ord O' A' nw a e d := by
  cases d with
  | none => exact h
  | some D =>
    obtain ⟨h1, k, h2, h3⟩ := h
    exact ⟨h1, k, h2, h3.eq q⟩
def RE1 (n : Nat) (B : Nat → Int32) (ord : Bool) (g : gb_G) (cd : Cd) (R : Option gb_G) : Ou → Prop
  | .inl p => ∃ r, R = some r ∧ RB r p
  | .inr (s', l', D, _) => ∃ (r : gb_G) (cd' : Cd), R = some r ∧ RY n B ord r s' l' cd' ∧ lowR cd cd' ∧ pR ord cd'.2.1 cd'.2.2 (nW ord) cd.1 cd'.1 (some D) ∧ r.1 77 21 = g.1 77 21 ∧ ∀ k, r.1 87 k = g.1 87 k ∧ r.1 103 k = g.1 103 k
theorem ex_k {sh : List gb_Sh} {n s l : Nat} {B : Nat → Int32} {ord : Bool} {g : gb_G} {cd : Cd} {y : Int32} {o : Ou} (v : VO n ord s l o) (h : XO n B ord s l cd (f_X11_readExpression sh g y) o) : RE1 n B ord g cd (f_X11_readExpression sh g y) o := by
  cases o with
  | inl p => exact h
  | inr x =>
    obtain ⟨s', l', D, φ⟩ := x
    obtain ⟨r, cd', h1, h2, h3, h4, h5⟩ := h
    have F := w_X11_readExpression h1
    exact ⟨r, cd', h1, RY_S h2, h3, ⟨h4, l' - l, by have := v.2.2.2.1; omega, h5⟩, (F 77 21 (by omega)).1, fun k => ⟨(F 87 k (by omega)).1, (F 103 k (by omega)).1⟩⟩
theorem exS {sh : List gb_Sh} {n s l : Nat} {B : Nat → Int32} {ord : Bool} {g : gb_G} {cd : Cd} (hn : n ≤ 400) (h : RY n B ord g s l cd) : RE1 n B ord g cd (f_X11_readExpression sh g 0) (spO n B ord 60 0 0 s l) :=
  ex_k (spO_v hn 60 0 0 s l h.1.2.1 h.2.2.2.2.2.2.2).1 (sum_m hn (RY_X h))
theorem exT {sh : List gb_Sh} {n s l : Nat} {B : Nat → Int32} {ord : Bool} {g : gb_G} {cd : Cd} (hn : n ≤ 400) (h : RY n B ord g s l cd) : RE1 n B ord g cd (f_X11_readExpression sh g 1) (spO n B ord 60 3 0 s l) :=
  ex_k (spO_v hn 60 3 0 s l h.1.2.1 h.2.2.2.2.2.2.2).1 (test_m hn (RY_X h))
/-- a piece, by its bounds -/
def pRb (ord : Bool) (cd : Cd) (Q : Nat → Int32) (j : Nat) (d : Option Den) : Prop := ∃ a e, e ≤ cd.1 ∧ Q j = Int32.ofNat a ∧ Q (j + 1) = Int32.ofNat e ∧ pR ord cd.2.1 cd.2.2 (nW ord) a e d
theorem pRb_lo {ord : Bool} {cd cd' : Cd} {Q Q' : Nat → Int32} {j : Nat} {d : Option Den} (h : pRb ord cd Q j d) (h1 : lowR cd cd') (h2 : cd.1 ≤ cd'.1) (e1 : Q' j = Q j) (e2 : Q' (j + 1) = Q (j + 1)) : pRb ord cd' Q' j d := by
  obtain ⟨a, e, x1, x2, x3, x4⟩ := h
  exact ⟨a, e, by omega, e1.trans x2, e2.trans x3, pR_eq x4 fun i _ hi => h1 i (by omega)⟩
/-- the i-th CLAUSE of the reference -/
def gM (ord : Bool) (cd : Cd) (Q : Nat → Int32) (i : Nat) (q : Cl) : Prop := Q (8 * i) = Int32.ofNat q.1 ∧ ((ord = false ∧ pRb ord cd Q (8 * i + 3) q.2.1) ∨ (ord = true ∧ Q (8 * i + 7) = Int32.ofNat q.2.2.2.1 ∧ pRb ord cd Q (8 * i + 1) q.2.1 ∧ pRb ord cd Q (8 * i + 3) q.2.2.1)) ∧ pRb ord cd Q (8 * i + 5) q.2.2.2.2
theorem gM_lo {ord : Bool} {cd cd' : Cd} {Q Q' : Nat → Int32} {i : Nat} {q : Cl} (h : gM ord cd Q i q) (h1 : lowR cd cd') (h2 : cd.1 ≤ cd'.1) (e : ∀ k, k < 8 → Q' (8 * i + k) = Q (8 * i + k)) : gM ord cd' Q' i q := by
  obtain ⟨x1, x2, x3⟩ := h
  refine ⟨(e 0 (by omega)).trans x1, ?_, pRb_lo x3 h1 h2 (e 5 (by omega)) (e 6 (by omega))⟩
  rcases x2 with ⟨y1, y2⟩ | ⟨y1, y2, y3, y4⟩
  · exact Or.inl ⟨y1, pRb_lo y2 h1 h2 (e 3 (by omega)) (e 4 (by omega))⟩
  · exact Or.inr ⟨y1, (e 7 (by omega)).trans y2, pRb_lo y3 h1 h2 (e 1 (by omega)) (e 2 (by omega)), pRb_lo y4 h1 h2 (e 3 (by omega)) (e 4 (by omega))⟩
abbrev clC (ord : Bool) : Nat := if ord = true then 103 else 87
def MO (n : Nat) (B : Nat → Int32) (ord : Bool) (g : gb_G) (m : Nat) (cd : Cd) (R : Option gb_G) : CR → Prop
  | .inl p => ∃ r, R = some r ∧ RB r p
  | .inr (s', l', q, _) => ∃ (r : gb_G) (cd' : Cd), R = some r ∧ RY n B ord r s' l' cd' ∧ lowR cd cd' ∧ cd.1 ≤ cd'.1 ∧ r.1 77 21 = Int32.ofNat (m + 1) ∧ gM ord cd' (r.1 (clC ord)) m q ∧ ∀ i, i < 8 * m → r.1 (clC ord) i = g.1 (clC ord) i
theorem lowR_tr {a b c : Cd} (h1 : lowR a b) (h2 : lowR b c) (h : a.1 ≤ b.1) : lowR a c := fun i hi => ⟨(h2 i (by omega)).1.trans (h1 i hi).1, (h2 i (by omega)).2.trans (h1 i hi).2⟩
theorem lowR_rf {a : Cd} : lowR a a := fun _ _ => ⟨rfl, rfl⟩
theorem MO_up {n : Nat} {B : Nat → Int32} {ord : Bool} {g g1 : gb_G} {m : Nat} {cd cd1 : Cd} {R : Option gb_G} {o : CR} (h : MO n B ord g1 m cd1 R o) (h1 : lowR cd cd1) (h2 : cd.1 ≤ cd1.1) (e : ∀ i, i < 8 * m → g1.1 (clC ord) i = g.1 (clC ord) i) : MO n B ord g m cd R o := by
  cases o with
  | inl p => exact h
  | inr x =>
    obtain ⟨s', l', q, φ⟩ := x
    obtain ⟨r, cd', x1, x2, x3, x4, x5, x6, x7⟩ := h
    exact ⟨r, cd', x1, x2, lowR_tr h1 x3 h2, by omega, x5, x6, fun i hi => (x7 i hi).trans (e i hi)⟩
theorem cl3_t {n s l k : Nat} {B : Nat → Int32} {φ : Bool} {D1 D2 : Option Den} : cl3 n B true k D1 D2 φ s l = if isK n B s 3 then (if kd n B (tn n B s) = 2 ∧ 1 ≤ NV n B (tn n B s) ∧ NV n B (tn n B s) ≤ 20 then cl4 n B true k D1 D2 (NV n B (tn n B s)) φ (tn n B (tn n B s)) l else .inl (tn n B s)) else cl4 n B true k D1 D2 1 φ s l := by
  unfold cl3
  by_cases q : isK n B s 3
  · rw [if_pos q, if_pos ⟨rfl, q⟩]
  · rw [if_neg q, if_neg (fun z => q z.2)]
theorem cl2_t {n s l : Nat} {B : Nat → Int32} {φ : Bool} {D1 : Option Den} : cl2 n B true 2 D1 φ s l = if isK n B s 2 then (match spO n B true 60 0 0 (tn n B s) l with
    | .inl p => .inl p
    | .inr (s', l', D, φ') => cl3 n B true 2 D1 (some D) (φ || φ') s' l') else .inl s := by
  unfold cl2
  rw [if_pos ⟨rfl, rfl⟩]
  by_cases q : isK n B s 2
  · rw [if_pos q, if_pos q]
    cases spO n B true 60 0 0 (tn n B s) l with
    | inl p => rfl
    | inr x => rfl
  · rw [if_neg q, if_neg q]
theorem cl2_n {n s l k : Nat} {B : Nat → Int32} {φ : Bool} {D1 : Option Den} (q : ¬ k = 2) : cl2 n B true k D1 φ s l = cl3 n B true k D1 none φ s l := by
  unfold cl2
  rw [if_neg (fun z => q z.2)]
/-! LAWS -/
theorem cl2_f {n s l k : Nat} {B : Nat → Int32} {φ : Bool} {D1 : Option Den} : cl2 n B false k D1 φ s l = cl4 n B false k D1 none 1 φ s l := by
  unfold cl2 cl3
  rw [if_neg (fun z => absurd z.1 (by decide)), if_neg (fun z => absurd z.1 (by decide))]
theorem l185 {sh : List gb_Sh} {g : gb_G} {m : Nat} (hm : m < 12) : f_X11_readLaw_185 sh g (Int32.ofNat (8 * m)) = some (gb_pi g 87 (8 * m + 6) (g.1 77 23)) := by
  unfold f_X11_readLaw_185
  rw [show (6 : Int32) = Int32.ofNat 6 from rfl, o_add, gb_ck_s (o_in (by omega) (by omega)), o_cl (by omega), gb_let_s]
theorem l135b {sh : List gb_Sh} {g : gb_G} {m p : Nat} (hm : m < 12) (h : RB g p) : ∃ r, f_X11_readLaw_135 sh g (Int32.ofNat (8 * m)) = some r ∧ RB r p := by
  unfold f_X11_readLaw_135
  rw [show (4 : Int32) = Int32.ofNat 4 from rfl, show (5 : Int32) = Int32.ofNat 5 from rfl, o_add, o_add, gb_ck_s (o_in (by omega) (by omega)), o_cl (by omega), gb_let_s, gb_ck_s (o_in (by omega) (by omega)), o_cl (by omega), gb_let_s, if_neg, l185 hm]
  · exact ⟨_, rfl, (pi_n (by omega)).trans ((pi_n (by omega)).trans ((pi_n (by omega)).trans h.1)), (pi_n (by omega)).trans ((pi_n (by omega)).trans ((pi_n (by omega)).trans h.2))⟩
  · rw [pi_n (by omega), pi_n (by omega), h.1]; decide
theorem nx_k {sh : List gb_Sh} {g o : gb_G} (e : f_X11_next sh g = some o) : ∀ c k, ¬ (c = 77 ∧ 14 ≤ k ∧ k ≤ 17) → eqc g o c k := fun c k q => w_X11_next e c k (by omega)
theorem l135 {sh : List gb_Sh} {n s l m k a : Nat} {B : Nat → Int32} {φ : Bool} {g : gb_G} {cd : Cd} {D1 : Option Den} (hn : n ≤ 400) (hm : m < 12) (h : RY n B false g s l cd) (h21 : g.1 77 21 = Int32.ofNat (m + 1)) (hk : g.1 87 (8 * m) = Int32.ofNat k) (h3 : g.1 87 (8 * m + 3) = Int32.ofNat a) (p1 : pR false cd.2.1 cd.2.2 (nW false) a cd.1 D1) : MO n B false g m cd (f_X11_readLaw_135 sh g (Int32.ofNat (8 * m))) (cl4 n B false k D1 none 1 φ s l) := by
  have h23 := h.2.2.2.2.1.1
  unfold f_X11_readLaw_135 cl4
  rw [show (4 : Int32) = Int32.ofNat 4 from rfl, show (5 : Int32) = Int32.ofNat 5 from rfl, o_add, o_add, gb_ck_s (o_in (by omega) (by omega)), o_cl (by omega), gb_let_s, gb_ck_s (o_in (by omega) (by omega)), o_cl (by omega), gb_let_s, h23, show (gb_pi g 87 (8 * m + 4) (Int32.ofNat cd.1)).1 77 23 = Int32.ofNat cd.1 from (pi_n (by omega)).trans h23]
  have E : ∀ c j, ¬ (c = 87 ∧ (j = 8 * m + 4 ∨ j = 8 * m + 5)) → eqc g (gb_pi (gb_pi g 87 (8 * m + 4) (Int32.ofNat cd.1)) 87 (8 * m + 5) (Int32.ofNat cd.1)) c j := fun c j q => eqc_tr (eqpi (by omega)) (eqpi (by omega))
  have e4 : (gb_pi (gb_pi g 87 (8 * m + 4) (Int32.ofNat cd.1)) 87 (8 * m + 5) (Int32.ofNat cd.1)).1 87 (8 * m + 4) = Int32.ofNat cd.1 := (pi_n (by omega)).trans pi_e
  have e5 : (gb_pi (gb_pi g 87 (8 * m + 4) (Int32.ofNat cd.1)) 87 (8 * m + 5) (Int32.ofNat cd.1)).1 87 (8 * m + 5) = Int32.ofNat cd.1 := pi_e
  generalize gb_pi (gb_pi g 87 (8 * m + 4) (Int32.ofNat cd.1)) 87 (8 * m + 5) (Int32.ofNat cd.1) = g1 at E e4 e5
  have h' : RY n B false g1 s l cd := RY_fr h (mS_e h.1 fun c k q => E c k (by omega)) (Nat.le_refl _) fun c k q => E c k (by omega)
  have le1 := pR_le p1
  rw [if_pos h'.2.1, show (294 : Int64) = Int64.ofNat (kh 4) from rfl, kw_m hn (show 2 ≤ 4 ∧ 4 ≤ 7 by omega) h'.1, gb_bd_s]
  simp only []
  by_cases q : isK n B s 4
  · rw [if_pos q, if_pos q, if_neg (show ¬ (1 : Int32) = 0 by decide)]
    obtain ⟨o, eo, mo⟩ := next_m (sh := sh) hn h'.1
    have N := nx_k eo
    have ho1 : RY n B false o (tn n B s) l cd := RY_fr h' mo (tn_b h'.1.2.1).1 fun c k q => N c k (by omega)
    rw [eo, gb_bd_s]
    have r := exT (sh := sh) hn ho1
    cases ho : spO n B false 60 3 0 (tn n B s) l with
    | inl p =>
      rw [ho] at r
      obtain ⟨r, r1, r2⟩ := r
      rw [r1, gb_bd_s, l185 hm]
      exact ⟨_, rfl, (pi_n (by omega)).trans r2.1, (pi_n (by omega)).trans r2.2⟩
    | inr x =>
      obtain ⟨s', l', D, φ'⟩ := x
      rw [ho] at r
      obtain ⟨r, cd', r1, r2, r3, r4, r5, r6⟩ := r
      have le2 := pR_le r4
      rw [r1, gb_bd_s, l185 hm, r2.2.2.2.2.1.1]
      have K : ∀ j, ¬ (j = 8 * m + 4 ∨ j = 8 * m + 5 ∨ j = 8 * m + 6) → (gb_pi r 87 (8 * m + 6) (Int32.ofNat cd'.1)).1 87 j = g.1 87 j := fun j z => (pi_n (by omega)).trans ((r6 j).1.trans ((N 87 j (by omega)).1.trans (E 87 j (by omega)).1))
      refine ⟨_, cd', rfl, RY_fr r2 (mS_e r2.1 fun c k q => eqpi (by omega)) (Nat.le_refl _) (fun c k q => eqpi (by omega)), r3, le2, (pi_n (by omega)).trans (r5.trans ((N 77 21 (by omega)).1.trans ((E 77 21 (by omega)).1.trans h21))), ⟨(K _ (by omega)).trans hk, Or.inl ⟨rfl, a, cd.1, le2, (K _ (by omega)).trans h3, ?_, pR_eq p1 fun i _ hi => r3 i hi⟩, cd.1, cd'.1, Nat.le_refl _, ?_, pi_e, r4⟩, fun i hi => K i (by omega)⟩
      · exact (pi_n (by omega)).trans ((r6 _).1.trans ((N 87 _ (by omega)).1.trans e4))
      · exact (pi_n (by omega)).trans ((r6 _).1.trans ((N 87 _ (by omega)).1.trans e5))
  · rw [if_neg q, if_neg q, if_pos rfl, l185 hm, h'.2.2.2.2.1.1]
    have K : ∀ j, ¬ (j = 8 * m + 4 ∨ j = 8 * m + 5 ∨ j = 8 * m + 6) → (gb_pi g1 87 (8 * m + 6) (Int32.ofNat cd.1)).1 87 j = g.1 87 j := fun j z => (pi_n (by omega)).trans (E 87 j (by omega)).1
    refine ⟨_, cd, rfl, RY_fr h' (mS_e h'.1 fun c k q => eqpi (by omega)) (Nat.le_refl _) (fun c k q => eqpi (by omega)), lowR_rf, Nat.le_refl _, (pi_n (by omega)).trans ((E 77 21 (by omega)).1.trans h21), ⟨(K _ (by omega)).trans hk, Or.inl ⟨rfl, a, cd.1, Nat.le_refl _, (K _ (by omega)).trans h3, (pi_n (by omega)).trans e4, p1⟩, cd.1, cd.1, Nat.le_refl _, (pi_n (by omega)).trans e5, pi_e, rfl⟩, fun i hi => K i (by omega)⟩
theorem l75 {sh : List gb_Sh} {m : Nat} {y1 : Int32} (hm : m < 12) : ∀ (d j F : Nat) (g : gb_G), j + d = 8 → d < F → ∃ g' f', (∀ c k, ¬ (c = 87 ∧ 8 * m ≤ k) → eqc g g' c k) ∧ (∀ k, k < 8 * m → g'.1 87 k = g.1 87 k) ∧ f_X11_readLaw_75 sh F g y1 (Int32.ofNat (8 * m)) (Int32.ofNat j) = f_X11_readLaw_75 sh (f' + 1) g' y1 (Int32.ofNat (8 * m)) (Int32.ofNat 8) := by
  intro d
  induction d with
  | zero =>
    intro j F g hj hF
    obtain ⟨f, rfl⟩ : ∃ f, F = f + 1 := ⟨F - 1, by omega⟩
    rw [show j = 8 by omega]
    exact ⟨g, f, fun c k _ => ⟨rfl, rfl, rfl⟩, fun k _ => rfl, rfl⟩
  | succ d ih =>
    intro j F g hj hF
    obtain ⟨f, rfl⟩ : ∃ f, F = f + 1 := ⟨F - 1, by omega⟩
    obtain ⟨g', f', e1, e2, e3⟩ := ih (j + 1) f (gb_pi g 87 (8 * m + j) 0) (by omega) (by omega)
    refine ⟨g', f', fun c k q => eqc_tr (eqpi (by omega)) (e1 c k q), fun k hk => (e2 k hk).trans (pi_n (by omega)), ?_⟩
    rw [f_X11_readLaw_75, if_neg (by rw [show (8 : Int32) = Int32.ofNat 8 from rfl, o_le (by omega) (by omega)]; omega), o_add, gb_ck_s (o_in (by omega) (by omega)), o_cl (by omega), gb_let_s, o_succ]
    exact e3
theorem hd_l {sh : List gb_Sh} {n t : Nat} {B : Nat → Int32} {g : gb_G} (hn : n ≤ 400) (hc : mvC g) (hm : mS g n B t) : f_X11_readLaw sh g = f_X11_readLaw_4 sh (999995 + 1) g (match fW n B t 1 with | none => -1 | some k => Int32.ofNat k) (Int32.ofNat 4) := by
  unfold f_X11_readLaw
  have key := scn (g := g) (e := stp n B t) (t := t) (B := B) (val := fun k => Int32.ofNat k) (fun F g y j => f_X11_readLaw_4 sh F g y j) (wds 1) 0 (999995 + 1) (-1) (by decide) (fun F y i hi => by
    have hi9 : i < 4 := hi
    obtain ⟨k1, k2, k3⟩ := hs1_ok ⟨i, hi9⟩
    have e : g.2.1 94 i = Int64.ofNat (hs1.getD i 0) := by
      rw [hc.2.2.1 i hi9]
      have : ∀ i : Fin 4, ([14145715, 117095059, 7734419, 67155] : List Int64).getD i.val 0 = Int64.ofNat (hs1.getD i.val 0) := by decide
      exact this ⟨i, hi9⟩
    simp only [Nat.zero_add]
    rw [f_X11_readLaw_4, if_neg (by rw [show (4 : Int32) = Int32.ofNat 4 from rfl, o_le (by omega) (by omega)]; omega), gb_ck_s (o_in hi9 (by omega)), o_cl (by omega), e, iw_m hn hm k1 k2 k3, gb_bd_s]
    unfold f_X11_readLaw_27
    simp only []
    by_cases q : wq (stp n B t) B t ((wds 1).getD i []) = true
    · rw [if_pos q, if_pos q, if_neg (show ¬ (1 : Int32) = 0 by decide), o_succ]
    · rw [if_neg q, if_neg q, if_pos rfl, o_succ])
  rw [show (wds 1).length = 4 from rfl] at key
  exact (show _ = _ from key)
theorem rbf {g : gb_G} {s : Nat} : RB (gb_pi (gb_pi g 77 19 1) 77 18 (Int32.ofNat s)) s := ⟨(pi_n (by omega)).trans pi_e, pi_e⟩
theorem l54f {sh : List gb_Sh} {n s : Nat} {B : Nat → Int32} {g : gb_G} {y : Int32} (h : mS g n B s) (hb : g.1 77 19 = 0) : ∃ r, f_X11_readLaw_54 sh g y 0 = some r ∧ RB r s := by
  unfold f_X11_readLaw_54
  rw [must_f h hb, gb_bd_s, if_neg (by rw [rbf.1]; decide)]
  exact ⟨_, rfl, rbf⟩
/-- a CLAUSE of a LAW, in the reference -/
theorem law_m {sh : List gb_Sh} {n s l m : Nat} {B : Nat → Int32} {g : gb_G} {cd : Cd} (hn : n ≤ 400) (hm : m < 12) (h : RY n B false g s l cd) (h21 : g.1 77 21 = Int32.ofNat m) : MO n B false g m cd (f_X11_readLaw sh g) (clO n B false s l) := by
  rw [hd_l hn h.2.2.2.2.2.1 h.1, f_X11_readLaw_4, if_pos (by decide)]
  unfold clO
  rw [show (if false = true then 0 else 1) = 1 from rfl]
  cases hf : fW n B s 1 with
  | none =>
    simp only []
    rw [if_pos trivial]
    exact l54f h.1 h.2.1
  | some k =>
    obtain ⟨k1, k2⟩ := hd_b (ord := false) hf h.1.2.1
    simp only []
    rw [if_neg (fun z => by have := congrArg Int32.toInt z; rw [o_int (by omega), show (-1 : Int32).toInt = -1 from rfl] at this; omega), if_neg (by rw [h21, show (12 : Int32) = Int32.ofNat 12 from rfl, o_le (by omega) (by omega)]; omega)]
    obtain ⟨o, e1, e2, e3⟩ := must_t (sh := sh) (x := 1) hn h.1 h.2.1 (by decide)
    have N := nx_k e3
    have ho1 : RY n B false o (tn n B s) l cd := RY_fr h e2 (tn_b h.1.2.1).1 fun c k q => N c k (by omega)
    unfold f_X11_readLaw_54
    rw [e1, gb_bd_s, if_pos ho1.2.1, (N 77 21 (by omega)).1, h21, show (8 : Int32) = Int32.ofNat 8 from rfl, o_mul]
    obtain ⟨g', f', x1, x2, x3⟩ := l75 (sh := sh) (m := m) (y1 := Int32.ofNat k) hm 8 0 gb_N o rfl (by decide)
    rw [show (0 : Int32) = Int32.ofNat 0 from rfl, x3, f_X11_readLaw_75, if_pos (by decide), gb_ck_s (o_in (by omega) (by omega)), o_cl (by omega), gb_let_s, gb_let_s, show (gb_pi g' 87 (8 * m) (Int32.ofNat k)).1 77 21 = Int32.ofNat m from (pi_n (by omega)).trans ((x1 77 21 (by omega)).1.trans ((N 77 21 (by omega)).1.trans h21)), o_succ, show (3 : Int32) = Int32.ofNat 3 from rfl, o_add, gb_ck_s (o_in (by omega) (by omega)), o_cl (by omega), gb_let_s, show (gb_pi (gb_pi g' 87 (8 * m) (Int32.ofNat k)) 77 21 (Int32.ofNat (m + 1))).1 77 23 = Int32.ofNat cd.1 from (pi_n (by omega)).trans ((pi_n (by omega)).trans ((x1 77 23 (by omega)).1.trans ho1.2.2.2.2.1.1))]
    have E : ∀ c j, ¬ (c = 87 ∧ 8 * m ≤ j) → ¬ (c = 77 ∧ j = 21) → eqc o (gb_pi (gb_pi (gb_pi g' 87 (8 * m) (Int32.ofNat k)) 77 21 (Int32.ofNat (m + 1))) 87 (8 * m + 3) (Int32.ofNat cd.1)) c j := fun c j q1 q2 => eqc_tr (x1 c j q1) (eqc_tr (eqpi (by omega)) (eqc_tr (eqpi (by omega)) (eqpi (by omega))))
    have e0 : (gb_pi (gb_pi (gb_pi g' 87 (8 * m) (Int32.ofNat k)) 77 21 (Int32.ofNat (m + 1))) 87 (8 * m + 3) (Int32.ofNat cd.1)).1 87 (8 * m) = Int32.ofNat k := (pi_n (by omega)).trans ((pi_n (by omega)).trans pi_e)
    have e3' : (gb_pi (gb_pi (gb_pi g' 87 (8 * m) (Int32.ofNat k)) 77 21 (Int32.ofNat (m + 1))) 87 (8 * m + 3) (Int32.ofNat cd.1)).1 87 (8 * m + 3) = Int32.ofNat cd.1 := pi_e
    have e21 : (gb_pi (gb_pi (gb_pi g' 87 (8 * m) (Int32.ofNat k)) 77 21 (Int32.ofNat (m + 1))) 87 (8 * m + 3) (Int32.ofNat cd.1)).1 77 21 = Int32.ofNat (m + 1) := (pi_n (by omega)).trans pi_e
    generalize gb_pi (gb_pi (gb_pi g' 87 (8 * m) (Int32.ofNat k)) 77 21 (Int32.ofNat (m + 1))) 87 (8 * m + 3) (Int32.ofNat cd.1) = g2 at E e0 e3' e21
    have h2 : RY n B false g2 (tn n B s) l cd := RY_fr ho1 (mS_e ho1.1 fun c k q => E c k (by omega) (by omega)) (Nat.le_refl _) fun c k q => E c k (by omega) (by omega)
    refine MO_up (g1 := g2) (cd1 := cd) ?_ lowR_rf (Nat.le_refl _) (fun i hi => (E 87 i (by omega) (by omega)).1.trans (N 87 i (by omega)).1)
    by_cases q : k = 3
    · subst q
      rw [if_pos rfl, if_pos rfl, cl2_f]
      exact l135 hn hm h2 e21 e0 e3' rfl
    · rw [if_neg (fun z => q (o_inj (by omega) (by omega) z)), if_neg q]
      have r := exS (sh := sh) hn h2
      cases ho : spO n B false 60 0 0 (tn n B s) l with
      | inl p =>
        rw [ho] at r
        obtain ⟨r, r1, r2⟩ := r
        rw [r1, gb_bd_s]
        exact l135b hm r2
      | inr x =>
        obtain ⟨s', l', D, φ'⟩ := x
        rw [ho] at r
        obtain ⟨r, cd', r1, r2, r3, r4, r5, r6⟩ := r
        have le2 := pR_le r4
        rw [r1, gb_bd_s]
        simp only []
        rw [cl2_f]
        exact MO_up (l135 hn hm r2 (r5.trans e21) ((r6 _).1.trans e0) ((r6 _).1.trans e3') r4) r3 le2 fun i hi => (r6 i).1
theorem law_m12 {sh : List gb_Sh} {n s l : Nat} {B : Nat → Int32} {g : gb_G} {cd : Cd} (hn : n ≤ 400) (h : RY n B false g s l cd) (h21 : g.1 77 21 = Int32.ofNat 12) : ∃ r, f_X11_readLaw sh g = some r ∧ RB r s := by
  rw [hd_l hn h.2.2.2.2.2.1 h.1, f_X11_readLaw_4, if_pos (by decide), if_pos (show (12 : Int32) ≤ g.1 77 21 by rw [h21]; decide), ite_self]
  exact l54f h.1 h.2.1
