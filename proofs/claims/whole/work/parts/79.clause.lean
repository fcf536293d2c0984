/-! ===== CLAUSES: what is told; the class reads so ===== -/
/-- a CLAUSE: its kind, its SUMS, TIMES, its "if" -/
abbrev Cl : Type := Nat × Option Den × Option Den × Nat × Option Den
/-- where the FAULT is, or: the place behind, how many PARTS, the CLAUSE, whether it asks for the figure -/
abbrev CR : Type := Nat ⊕ (Nat × Nat × Cl × Bool)
def cl4 (n : Nat) (B : Nat → Int32) (ord : Bool) (k : Nat) (D1 D2 : Option Den) (t : Nat) (φ : Bool) (s l : Nat) : CR :=
  if isK n B s 4 then (match spO n B ord 60 3 0 (tn n B s) l with
    | .inl p => .inl p
    | .inr (s', l', D, φ') => .inr (s', l', (k, D1, D2, t, some D), φ || φ'))
  else .inr (s, l, (k, D1, D2, t, none), φ)
def cl3 (n : Nat) (B : Nat → Int32) (ord : Bool) (k : Nat) (D1 D2 : Option Den) (φ : Bool) (s l : Nat) : CR :=
  if ord = true ∧ isK n B s 3 then (if kd n B (tn n B s) = 2 ∧ 1 ≤ NV n B (tn n B s) ∧ NV n B (tn n B s) ≤ 20 then cl4 n B ord k D1 D2 (NV n B (tn n B s)) φ (tn n B (tn n B s)) l else .inl (tn n B s))
  else cl4 n B ord k D1 D2 1 φ s l
def cl2 (n : Nat) (B : Nat → Int32) (ord : Bool) (k : Nat) (D1 : Option Den) (φ : Bool) (s l : Nat) : CR :=
  if ord = true ∧ k = 2 then (if isK n B s 2 then (match spO n B ord 60 0 0 (tn n B s) l with
    | .inl p => .inl p
    | .inr (s', l', D, φ') => cl3 n B ord k D1 (some D) (φ || φ') s' l') else .inl s)
  else cl3 n B ord k D1 none φ s l
def clO (n : Nat) (B : Nat → Int32) (ord : Bool) (s l : Nat) : CR := match fW n B s (if ord = true then 0 else 1) with
  | none => .inl s
  | some k => if k = 3 then cl2 n B ord 3 none false (tn n B s) l else (match spO n B ord 60 0 0 (tn n B s) l with
    | .inl p => .inl p
    | .inr (s', l', D, φ) => cl2 n B ord k (some D) φ s' l')
/-! what holds of them -/
def wfCl (ord φ : Bool) (q : Cl) : Prop := q.1 ≤ 3 ∧ (q.2.1 = none ↔ q.1 = 3) ∧ ((∃ D, q.2.2.1 = some D) ↔ ord = true ∧ q.1 = 2) ∧ (1 ≤ q.2.2.2.1 ∧ q.2.2.2.1 ≤ 20) ∧ (∀ D, q.2.1 = some D → VD (nW ord) D ∧ Dep ord φ D) ∧ (∀ D, q.2.2.1 = some D → VD (nW ord) D ∧ Dep ord φ D) ∧ ∀ D, q.2.2.2.2 = some D → TD (nW ord) D ∧ Dep ord φ D
theorem Dep_mo {ord φ φ' : Bool} {D : Den} (h : Dep ord φ D) (q : φ = true → φ' = true) : Dep ord φ' D := fun w w' e => h w w' fun j hj z => e j hj fun a b => q (z a b)
theorem wfCl_mo {ord φ φ' : Bool} {c : Cl} (h : wfCl ord φ c) (q : φ = true → φ' = true) : wfCl ord φ' c := by
  obtain ⟨h1, h2, h3, h4, h5, h6, h7⟩ := h
  exact ⟨h1, h2, h3, h4, fun D e => ⟨(h5 D e).1, Dep_mo (h5 D e).2 q⟩, fun D e => ⟨(h6 D e).1, Dep_mo (h6 D e).2 q⟩, fun D e => ⟨(h7 D e).1, Dep_mo (h7 D e).2 q⟩⟩
def VR (n : Nat) (ord : Bool) (s l : Nat) : CR → Prop
  | .inl p => p ≤ n
  | .inr (s', l', q, φ) => s ≤ s' ∧ s' ≤ n ∧ l ≤ l' ∧ l' ≤ 50 ∧ wfCl ord φ q
theorem VR_up {n s s0 l l0 : Nat} {ord : Bool} {o : CR} (h : VR n ord s l o) (hs : s0 ≤ s) (hl : l0 ≤ l) : VR n ord s0 l0 o := by
  cases o with
  | inl p => exact h
  | inr x =>
    obtain ⟨s', l', q, φ⟩ := x
    obtain ⟨h1, h2, h3, h4, h5⟩ := h
    exact ⟨by omega, h2, by omega, h4, h5⟩
theorem orl {a b : Bool} : a = true → (a || b) = true := by intro h; rw [h]; rfl
theorem orr {a b : Bool} : b = true → (a || b) = true := by intro h; rw [h, Bool.or_true]
theorem cl4_v {n s l k t : Nat} {B : Nat → Int32} {ord φ : Bool} {D1 D2 : Option Den} (hn : n ≤ 400) (hs : s ≤ n) (hl : l ≤ 50) (h : wfCl ord φ (k, D1, D2, t, none)) : VR n ord s l (cl4 n B ord k D1 D2 t φ s l) := by
  have ht := tn_b (B := B) hs
  unfold cl4
  split
  · obtain ⟨v, ve⟩ := spO_v (B := B) (ord := ord) hn 60 3 0 (tn n B s) l ht.2.1 hl
    cases ho : spO n B ord 60 3 0 (tn n B s) l with
    | inl p => rw [ho] at v; exact v
    | inr x =>
      obtain ⟨s', l', D, φ'⟩ := x
      rw [ho] at v ve
      obtain ⟨v1, v2, v3, v4, v5, v6⟩ := v
      obtain ⟨h1, h2, h3, h4, h5, h6, h7⟩ := wfCl_mo (φ' := φ || φ') h orl
      refine ⟨by omega, v2, by omega, v4, h1, h2, h3, h4, h5, h6, fun D' e => ?_⟩
      cases e
      exact ⟨ve.1, Dep_mo v6 orr⟩
  · exact ⟨Nat.le_refl _, hs, Nat.le_refl _, hl, h⟩
theorem cl3_v {n s l k : Nat} {B : Nat → Int32} {ord φ : Bool} {D1 D2 : Option Den} (hn : n ≤ 400) (hs : s ≤ n) (hl : l ≤ 50) (h : wfCl ord φ (k, D1, D2, 1, none)) : VR n ord s l (cl3 n B ord k D1 D2 φ s l) := by
  have ht := tn_b (B := B) hs
  have ht2 := tn_b (B := B) ht.2.1
  unfold cl3
  split
  · split
    · next z =>
      exact VR_up (cl4_v hn ht2.2.1 hl ⟨h.1, h.2.1, h.2.2.1, z.2, h.2.2.2.2⟩) (by omega) (Nat.le_refl _)
    · exact ht.2.1
  · exact cl4_v hn hs hl h
theorem cl2_v {n s l k : Nat} {B : Nat → Int32} {ord φ : Bool} {D1 : Option Den} (hn : n ≤ 400) (hs : s ≤ n) (hl : l ≤ 50) (hk : k ≤ 3) (h1 : D1 = none ↔ k = 3) (h2 : ∀ D, D1 = some D → VD (nW ord) D ∧ Dep ord φ D) : VR n ord s l (cl2 n B ord k D1 φ s l) := by
  have ht := tn_b (B := B) hs
  unfold cl2
  split
  · next z =>
    split
    · obtain ⟨v, ve⟩ := spO_v (B := B) (ord := ord) hn 60 0 0 (tn n B s) l ht.2.1 hl
      cases ho : spO n B ord 60 0 0 (tn n B s) l with
      | inl p => rw [ho] at v; exact v
      | inr x =>
        obtain ⟨s', l', D, φ'⟩ := x
        rw [ho] at v ve
        obtain ⟨v1, v2, v3, v4, v5, v6⟩ := v
        refine VR_up (cl3_v hn v2 v4 ⟨hk, h1, ⟨fun _ => z, fun _ => ⟨D, rfl⟩⟩, ⟨Nat.le_refl _, (show 1 ≤ 20 by omega)⟩, fun D' e => ⟨(h2 D' e).1, Dep_mo (h2 D' e).2 orl⟩, fun D' e => ?_, fun D' e => (nomatch e)⟩) (by omega) (by omega)
        cases e
        exact ⟨v5, Dep_mo v6 orr⟩
    · exact hs
  · next z =>
    exact cl3_v hn hs hl ⟨hk, h1, ⟨fun e => by obtain ⟨D, e⟩ := e; exact (nomatch e), fun e => absurd e z⟩, ⟨Nat.le_refl _, (show 1 ≤ 20 by omega)⟩, h2, fun D' e => (nomatch e), fun D' e => (nomatch e)⟩
theorem hd_b {n s k : Nat} {B : Nat → Int32} {ord : Bool} (h : fW n B s (if ord = true then 0 else 1) = some k) (hs : s ≤ n) : s < n ∧ k ≤ 3 := by
  obtain ⟨h1, h2, h3⟩ := fw_b _ _ h
  cases ord with
  | true =>
    have h2' : k < 0 + 4 := h2
    have z : ∀ i : Fin 4, 0 < ((wds 0).getD i.val []).length := by decide
    exact ⟨(wqn hs (z ⟨k, by omega⟩) h3).1, by omega⟩
  | false =>
    have h2' : k < 0 + 4 := h2
    have z : ∀ i : Fin 4, 0 < ((wds 1).getD i.val []).length := by decide
    exact ⟨(wqn hs (z ⟨k, by omega⟩) h3).1, by omega⟩
theorem clO_v {n s l : Nat} {B : Nat → Int32} {ord : Bool} (hn : n ≤ 400) (hs : s ≤ n) (hl : l ≤ 50) : VR n ord s l (clO n B ord s l) := by
  have ht := tn_b (B := B) hs
  unfold clO
  cases hk : fW n B s (if ord = true then 0 else 1) with
  | none => exact hs
  | some k =>
    obtain ⟨k1, k2⟩ := hd_b hk hs
    simp only []
    split
    · exact VR_up (cl2_v hn ht.2.1 hl (Nat.le_refl _) ⟨fun _ => rfl, fun _ => rfl⟩ (fun D e => (nomatch e))) (by omega) (Nat.le_refl _)
    · next z =>
      obtain ⟨v, ve⟩ := spO_v (B := B) (ord := ord) hn 60 0 0 (tn n B s) l ht.2.1 hl
      cases ho : spO n B ord 60 0 0 (tn n B s) l with
      | inl p => rw [ho] at v; exact v
      | inr x =>
        obtain ⟨s', l', D, φ'⟩ := x
        rw [ho] at v ve
        obtain ⟨v1, v2, v3, v4, v5, v6⟩ := v
        refine VR_up (cl2_v hn v2 v4 k2 ⟨fun e => (nomatch e), fun e => absurd e z⟩ fun D' e => ?_) (by omega) (by omega)
        cases e
        exact ⟨v5, v6⟩
theorem clO_lt {n s l : Nat} {B : Nat → Int32} {ord : Bool} (hs : s ≤ n) : ∀ x, clO n B ord s l = .inr x → s < n := by
  intro x h
  unfold clO at h
  cases hk : fW n B s (if ord = true then 0 else 1) with
  | none => rw [hk] at h; cases h
  | some k => exact (hd_b hk hs).1
/-! the class -/
def pC (O A : Nat → Int32) (nw a e : Nat) : Option Den → Prop
  | none => a = e
  | some D => a < e ∧ ∃ k, k ≤ 50 ∧ XC O A nw a e k D
theorem pC_le {O A : Nat → Int32} {nw a e : Nat} {d : Option Den} (h : pC O A nw a e d) : a ≤ e := by
  cases d with
  | none => exact Nat.le_of_eq h
  | some D => exact Nat.le_of_lt h.1
theorem pC_eq {O A O' A' : Nat → Int32} {nw a e : Nat} {d : Option Den} (h : pC O A nw a e d) (q : ∀ i, a ≤ i → i < e → O' i = O i ∧ A' i = A i) : pC O' A' nw a e d := by
  cases d with
  | none => exact h
  | some D =>
    obtain ⟨h1, k, h2, h3⟩ := h
    exact ⟨h1, k, h2, h3.eq q⟩
def KA (g r : gb_G) (c : Nat) : Prop := lowC g r c ∧ r.1 46 3 = g.1 46 3 ∧ ∀ k, r.1 49 k = g.1 49 k ∧ r.1 50 k = g.1 50 k ∧ r.1 51 k = g.1 51 k
def KP (g r : gb_G) (m c : Nat) : Prop := lowC g r c ∧ (∀ i, i < m → r.1 49 i = g.1 49 i ∧ r.1 50 i = g.1 50 i) ∧ ∀ i, i ≤ 3 * m → r.1 51 i = g.1 51 i
theorem KA.kp {g r : gb_G} {m c : Nat} (h : KA g r c) : KP g r m c := ⟨h.1, fun i _ => ⟨(h.2.2 i).1, (h.2.2 i).2.1⟩, fun i _ => (h.2.2 i).2.2⟩
theorem KP.tr {g r q : gb_G} {m c c' : Nat} (a : KP g r m c) (b : KP r q m c') (h : c ≤ c') : KP g q m c :=
  ⟨fun i hi => ⟨(b.1 i (by omega)).1.trans (a.1 i hi).1, (b.1 i (by omega)).2.trans (a.1 i hi).2⟩, fun i hi => ⟨(b.2.1 i hi).1.trans (a.2.1 i hi).1, (b.2.1 i hi).2.trans (a.2.1 i hi).2⟩, fun i hi => (b.2.2 i hi).trans (a.2.2 i hi)⟩
/-- the i-th CLAUSE of the class' Program -/
def gC (g : gb_G) (nw i c : Nat) (q : Cl) : Prop := g.1 49 i = Int32.ofNat q.1 ∧ g.1 50 i = Int32.ofNat q.2.2.2.1 ∧ ∃ a0 a1 a2 a3, a3 ≤ c ∧ g.1 51 (3 * i) = Int32.ofNat a0 ∧ g.1 51 (3 * i + 1) = Int32.ofNat a1 ∧ g.1 51 (3 * i + 2) = Int32.ofNat a2 ∧ g.1 51 (3 * i + 3) = Int32.ofNat a3 ∧ pC (g.1 47) (g.1 48) nw a0 a1 q.2.1 ∧ pC (g.1 47) (g.1 48) nw a1 a2 q.2.2.1 ∧ pC (g.1 47) (g.1 48) nw a2 a3 q.2.2.2.2
def KO (n : Nat) (B : Nat → Int32) (ord : Bool) (g : gb_G) (m c : Nat) (φ0 : Bool) (R : Option (gb_G × Int32)) : CR → Prop
  | .inl p => ∃ r, R = some (r, 0) ∧ cS r n B p ∧ r.1 51 0 = g.1 51 0
  | .inr (s', l', q, φ) => ∃ r c', R = some (r, 1) ∧ CSt n B ord r s' l' c' (φ0 || φ) ∧ c ≤ c' ∧ r.1 46 3 = Int32.ofNat (m + 1) ∧ gC r (nW ord) m c' q ∧ r.1 51 (3 * m + 3) = Int32.ofNat c' ∧ KP g r m c
theorem KO_up {n : Nat} {B : Nat → Int32} {ord φ0 : Bool} {g g1 : gb_G} {m c c1 : Nat} {R : Option (gb_G × Int32)} {o : CR} (h : KO n B ord g1 m c1 φ0 R o) (k : KP g g1 m c) (hc : c ≤ c1) : KO n B ord g m c φ0 R o := by
  cases o with
  | inl p =>
    obtain ⟨r, h1, h2, h3⟩ := h
    exact ⟨r, h1, h2, h3.trans (k.2.2 0 (by omega))⟩
  | inr x =>
    obtain ⟨s', l', q, φ⟩ := x
    obtain ⟨r, c', h1, h2, h3, h4, h5, h6, h7⟩ := h
    exact ⟨r, c', h1, h2, by omega, h4, h5, h6, k.tr h7 hc⟩
def LN (sh : List gb_Sh) : Prop := gb_ln sh 47 = 400 ∧ gb_ln sh 48 = 400 ∧ gb_ln sh 49 = 12 ∧ gb_ln sh 50 = 12 ∧ gb_ln sh 51 = 37
def RK1 (n : Nat) (B : Nat → Int32) (ord : Bool) (g : gb_G) (c : Nat) (φ0 : Bool) (R : Option (gb_G × Int32)) : Ou → Prop
  | .inl p => ∃ r, R = some (r, 0) ∧ cS r n B p ∧ r.1 51 0 = g.1 51 0
  | .inr (s', l', D, φ) => ∃ r c', R = some (r, 1) ∧ CSt n B ord r s' l' c' (φ0 || φ) ∧ pC (r.1 47) (r.1 48) (nW ord) c c' (some D) ∧ KA g r c
/-- a SUM (i = 0), a TEST (3) -/
theorem rdK {sh : List gb_Sh} {n s l c i : Nat} {B : Nat → Int32} {ord φ : Bool} {g : gb_G} (hn : n ≤ 400) (hB : ∀ j, j < n → im 0 255 (B j)) (hL : LN sh) (hi : i = 0 ∨ i = 3) (h : CSt n B ord g s l c φ) : RK1 n B ord g c φ (f_RD sh 60 i g 0) (spO n B ord 60 i 0 s l) := by
  have hs := h.1.2.1
  have hl := h.2.2.2.2.2.2
  obtain ⟨v, -⟩ := spO_v (B := B) (ord := ord) hn 60 i 0 s l hs hl
  have r := RD_c (sh := sh) (B := B) (ord := ord) hn hB hL.1 hL.2.1 60 i 0 (by omega) (by omega) (by rcases hi with e | e <;> subst e <;> decide) s l g c φ h
  cases ho : spO n B ord 60 i 0 s l with
  | inl p =>
    rw [ho] at r
    obtain ⟨r, c', e, h1, -⟩ := r
    have e' : f_RD sh 60 i g 0 = some (r, 0) := e
    exact ⟨r, e', h1, (w_RD _ _ e' 51 0 (by omega)).1⟩
  | inr x =>
    obtain ⟨s', l', D, φ'⟩ := x
    rw [ho] at r v
    obtain ⟨r, c', e, h1, h2, h3, h4, h5, h6⟩ := r
    have e' : f_RD sh 60 i g 0 = some (r, 1) := e
    have F := w_RD _ _ e'
    exact ⟨r, c', e', h1, ⟨h2, l' - l, by have := v.2.2.2.1; omega, h5⟩, h4, h6.1, fun k => ⟨(F 49 k (by omega)).1, h6.2 k, (F 51 k (by omega)).1⟩⟩
/-- the end of a CLAUSE -/
theorem c150 {sh : List gb_Sh} {n s l c m k t a0 a1 a2 : Nat} {B : Nat → Int32} {ord φ0 φ : Bool} {g : gb_G} {D1 D2 D3 : Option Den} (hL : LN sh) (hm : m < 12) (h : CSt n B ord g s l c (φ0 || φ)) (h3 : g.1 46 3 = Int32.ofNat m) (hk : g.1 49 m = Int32.ofNat k) (ht : g.1 50 m = Int32.ofNat t) (b0 : g.1 51 (3 * m) = Int32.ofNat a0) (b1 : g.1 51 (3 * m + 1) = Int32.ofNat a1) (b2 : g.1 51 (3 * m + 2) = Int32.ofNat a2) (p1 : pC (g.1 47) (g.1 48) (nW ord) a0 a1 D1) (p2 : pC (g.1 47) (g.1 48) (nW ord) a1 a2 D2) (p3 : pC (g.1 47) (g.1 48) (nW ord) a2 c D3) : KO n B ord g m c φ0 (f_X8_readClause_150 sh g) (.inr (s, l, (k, D1, D2, t, D3), φ)) := by
  unfold f_X8_readClause_150
  rw [show (2 : Int32) = Int32.ofNat 2 from rfl, endP_c hL.2.2.2.2 h3 hm (by omega), gb_bd_s, gb_let_s, show (gb_pi g 51 (m * 3 + 2 + 1) (g.1 46 0)).1 46 3 = Int32.ofNat m from (pi_n (by omega)).trans h3, o_succ]
  obtain ⟨x1, x2, x3, x4, x5, x6, x7⟩ := h
  have E : ∀ a k, ¬ (a = 51 ∧ k = 3 * m + 3) → ¬ (a = 46 ∧ k = 3) → (gb_pi (gb_pi g 51 (m * 3 + 2 + 1) (g.1 46 0)) 46 3 (Int32.ofNat (m + 1))).1 a k = g.1 a k := fun a k e1 e2 => (pi_n (by omega)).trans (pi_n (by omega))
  have e51 : (gb_pi (gb_pi g 51 (m * 3 + 2 + 1) (g.1 46 0)) 46 3 (Int32.ofNat (m + 1))).1 51 (3 * m + 3) = Int32.ofNat c := by
    rw [pi_n (by omega), show m * 3 + 2 + 1 = 3 * m + 3 by omega, pi_e]; exact x4
  refine ⟨_, c, rfl, ⟨cS_fr x1 fun a k q => E a k (by omega) (by omega), (E _ _ (by omega) (by omega)).trans x2, (E _ _ (by omega) (by omega)).trans x3, (E _ _ (by omega) (by omega)).trans x4, (E _ _ (by omega) (by omega)).trans x5, x6, x7⟩, Nat.le_refl _, pi_e, ⟨(E _ _ (by omega) (by omega)).trans hk, (E _ _ (by omega) (by omega)).trans ht, a0, a1, a2, c, Nat.le_refl _, (E _ _ (by omega) (by omega)).trans b0, (E _ _ (by omega) (by omega)).trans b1, (E _ _ (by omega) (by omega)).trans b2, e51, ?_, ?_, ?_⟩, e51, ⟨fun i _ => ⟨E _ _ (by omega) (by omega), E _ _ (by omega) (by omega)⟩, fun i _ => ⟨E _ _ (by omega) (by omega), E _ _ (by omega) (by omega)⟩, fun i _ => E _ _ (by omega) (by omega)⟩⟩
  · exact pC_eq p1 fun i _ _ => ⟨E _ _ (by omega) (by omega), E _ _ (by omega) (by omega)⟩
  · exact pC_eq p2 fun i _ _ => ⟨E _ _ (by omega) (by omega), E _ _ (by omega) (by omega)⟩
  · exact pC_eq p3 fun i _ _ => ⟨E _ _ (by omega) (by omega), E _ _ (by omega) (by omega)⟩
/-- a step, as all else sees it -/
theorem stpK {sh : List gb_Sh} {n s l c : Nat} {B : Nat → Int32} {ord φ : Bool} {g o : gb_G} (h : CSt n B ord g s l c φ) (h2 : cS o n B (tn n B s)) (e : f_X9_step sh g = some o) : CSt n B ord o (tn n B s) l c φ ∧ (∀ a k, ¬ a = 43 → o.1 a k = g.1 a k) ∧ KA g o c := by
  have F := w_X9_step e
  have E : ∀ a k, ¬ a = 43 → o.1 a k = g.1 a k := fun a k q => (F a k (by omega)).1
  exact ⟨CSt_fr h h2 (tn_b h.1.2.1).1 E, E, ⟨fun i _ => ⟨E _ _ (by omega), E _ _ (by omega)⟩, E _ _ (by omega), fun k => ⟨E _ _ (by omega), E _ _ (by omega), E _ _ (by omega)⟩⟩⟩
theorem pC_ka {g r : gb_G} {nw a e c : Nat} {d : Option Den} (h : pC (g.1 47) (g.1 48) nw a e d) (k : KA g r c) (he : e ≤ c) : pC (r.1 47) (r.1 48) nw a e d := pC_eq h fun i _ hi => k.1 i (by omega)
/-- "if" -/
theorem c131 {sh : List gb_Sh} {n s l c m k t a0 a1 : Nat} {B : Nat → Int32} {ord φ0 φ : Bool} {g : gb_G} {D1 D2 : Option Den} (hn : n ≤ 400) (hB : ∀ j, j < n → im 0 255 (B j)) (hL : LN sh) (hm : m < 12) (h : CSt n B ord g s l c (φ0 || φ)) (h3 : g.1 46 3 = Int32.ofNat m) (hk : g.1 49 m = Int32.ofNat k) (ht : g.1 50 m = Int32.ofNat t) (b0 : g.1 51 (3 * m) = Int32.ofNat a0) (b1 : g.1 51 (3 * m + 1) = Int32.ofNat a1) (b2 : g.1 51 (3 * m + 2) = Int32.ofNat c) (p1 : pC (g.1 47) (g.1 48) (nW ord) a0 a1 D1) (p2 : pC (g.1 47) (g.1 48) (nW ord) a1 c D2) : KO n B ord g m c φ0 (f_X8_readClause_131 sh g) (cl4 n B ord k D1 D2 t φ s l) := by
  unfold f_X8_readClause_131 cl4
  by_cases q : isK n B s 4
  · obtain ⟨o, e1, e2, e3⟩ := kw_t (sh := sh) hn (show 2 ≤ 4 ∧ 4 ≤ 7 by omega) h.1 q
    obtain ⟨f1, f2, f3⟩ := stpK h e2 e3
    rw [if_pos q, e1, bt]
    simp only []
    have r := rdK hn hB hL (Or.inr rfl) f1
    cases ho : spO n B ord 60 3 0 (tn n B s) l with
    | inl p =>
      rw [ho] at r
      obtain ⟨r, r1, r2, r3⟩ := r
      rw [r1, bf]
      exact ⟨r, rfl, r2, r3.trans (f2 _ _ (by omega))⟩
    | inr x =>
      obtain ⟨s', l', D, φ'⟩ := x
      rw [ho] at r
      obtain ⟨r, c', r1, r2, r3, r4⟩ := r
      rw [r1, bt]
      simp only []
      have le1 := pC_le p1
      have le2 := pC_le p2
      rw [Bool.or_assoc] at r2
      refine KO_up (c150 hL hm r2 (r4.2.1.trans (f3.2.1.trans h3)) ((r4.2.2 _).1.trans ((f3.2.2 _).1.trans hk)) ((r4.2.2 _).2.1.trans ((f3.2.2 _).2.1.trans ht)) ((r4.2.2 _).2.2.trans ((f3.2.2 _).2.2.trans b0)) ((r4.2.2 _).2.2.trans ((f3.2.2 _).2.2.trans b1)) ((r4.2.2 _).2.2.trans ((f3.2.2 _).2.2.trans b2)) (pC_ka (pC_ka p1 f3 le2) r4 le2) (pC_ka (pC_ka p2 f3 (Nat.le_refl _)) r4 (Nat.le_refl _)) r3) (f3.kp.tr r4.kp (Nat.le_refl _)) (pC_le r3)
  · rw [if_neg q, kw_f hn (show 2 ≤ 4 ∧ 4 ≤ 7 by omega) h.1 q, bf]
    exact c150 hL hm h h3 hk ht b0 b1 b2 p1 p2 rfl
