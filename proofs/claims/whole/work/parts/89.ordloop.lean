/-! ===== ORDERS: how often, and which; on both sides ===== -/
noncomputable def tmO (q : Cl) : Nat → OS → Option OS
  | 0, σ => some σ
  | t + 1, σ => match stO q σ with
    | none => none
    | some σ' => tmO q t σ'
noncomputable def rnO : List Cl → Nat → OS → Nat ⊕ OS
  | [], _, σ => .inr σ
  | q :: cs, i, σ => match tmO q q.2.2.2.1 σ with
    | none => .inl i
    | some σ' => rnO cs (i + 1) σ'
/-- of the same basket -/
def kpB (β0 β : ms_B) : Prop := ∀ s, bCur β s = bCur β0 s
theorem kpB.rf {β : ms_B} : kpB β β := fun _ => rfl
theorem kpB.cur {β0 β : ms_B} {s : Nat → Int32} (h : kpB β0 β) : kpB β0 (bCur β s) := fun s' => by rw [bCur_bCur]; exact h s'
theorem kpB.n {β0 β : ms_B} (h : kpB β0 β) : bN β = bN β0 := by
  have z : (bCur β (fun _ => 0)).1 = (bCur β0 (fun _ => 0)).1 := congrArg (fun b : ms_B => b.1) (h _)
  exact z
theorem st_w {q : Cl} {σ σ' : OS} {φ : Bool} {β0 : ms_B} (hq : wfCl true φ q) (h : wfO σ) (hk : kpB β0 σ.1) (e : stO q σ = some σ') : wfO σ' ∧ σ'.2.2.1 ≤ σ.2.2.1 + 1 ∧ kpB β0 σ'.1 := by
  unfold stO at e
  split at e
  · split at e
    · cases e
    · next x hx =>
      split at e
      · cases e
      · next y hy =>
        cases ha : actO q.1 x y σ.1 σ.2.1 with
        | none => rw [ha] at e; cases e
        | some r =>
          obtain ⟨β', H', t⟩ := r
          rw [ha] at e
          obtain ⟨d1, d2, d3, d4, s, d5⟩ := act_w hq.1 h.1 h.2.1 ha
          have e : some (β', H', σ.2.2.1 + 1, if q.1 = 2 then t else σ.2.2.2) = some σ' := e
          cases e
          refine ⟨⟨d1, d2, ?_⟩, Nat.le_refl _, by rw [show (β', H', σ.2.2.1 + 1, if q.1 = 2 then t else σ.2.2.2).1 = β' from rfl, d5]; exact hk.cur⟩
          show im (-1) 99 (if q.1 = 2 then t else σ.2.2.2)
          split
          · next z => have := d4 z; rw [im] at this ⊢; omega
          · exact h.2.2
  · cases e
    exact ⟨h, by omega, hk⟩
/-! the class -/
def Wo (c k : Nat) : Prop := (c = 0 ∧ k = 17) ∨ c = 2 ∨ c = 5 ∨ (33 ≤ c ∧ c ≤ 37) ∨ c = 53 ∨ (55 ≤ c ∧ c ≤ 60) ∨ c = 75
theorem ro_fr {sh : List gb_Sh} {g : gb_G} {x : Int32} {o : gb_G × Int32} (h : f_X10_runOnce sh g x = some o) : gb_Fr Wo g o.1 ∧ o.1.1 0 17 = g.1 0 17 := ⟨gb_Fr.up (w_X10_runOnce h) fun c k q => by unfold Wo; omega, (w_X10_runOnce h 0 17 (by omega)).1⟩
def T96 (sh : List gb_Sh) (g : gb_G) (i : Nat) (K : gb_G → Int32 → Option (gb_G × Int32)) (X : Option (gb_G × Int32)) : Option OS → Prop
  | none => ∃ g', X = K g' (Int32.ofNat (i + 1)) ∧ g'.1 0 17 = Int32.ofNat i ∧ im9 (g'.1 75 3) ∧ gb_Fr Wo g g'
  | some σ' => ∃ g', X = K g' (Int32.ofNat (i + 1)) ∧ g'.1 0 17 = -1 ∧ CSo sh g' σ' ∧ gb_Fr Wo g g'
theorem PGc_Wo {g g' : gb_G} {cs : List Cl} {c : Nat} {φ : Bool} (h : PGc g cs c φ) (F : gb_Fr Wo g g') : PGc g' cs c φ := PGc_fr h fun a k q => (F a k (by unfold Wo; omega)).1
theorem i17 {i : Nat} (h : i < 1000) : ¬ Int32.ofNat i = -1 := fun z => by
  have := congrArg Int32.toInt z
  rw [o_int (by omega), show (-1 : Int32).toInt = -1 from rfl] at this
  omega
theorem t96 {sh : List gb_Sh} {cs : List Cl} {q : Cl} {i c : Nat} {φ : Bool} {β0 : ms_B} {K : gb_G → Int32 → Option (gb_G × Int32)} (hL : LN sh) (hq : cs[i]? = some q) : ∀ (d t0 F : Nat) (g : gb_G) (σ : OS), t0 + d = q.2.2.2.1 → d < F → σ.2.2.1 + d ≤ 1000 → PGc g cs c φ → wfO σ → kpB β0 σ.1 → CSo sh g σ → g.1 0 17 = -1 → T96 sh g i K (f_X10_orders_96 sh K F g (Int32.ofNat i) (Int32.ofNat t0)) (tmO q d σ) := by
  intro d
  induction d with
  | zero =>
    intro t0 F g σ ht hF hd hP hσ hk h h17
    obtain ⟨f, rfl⟩ : ∃ f, F = f + 1 := ⟨F - 1, by omega⟩
    obtain ⟨P1, P2, P3, P4, P5, P6, P7⟩ := hP
    have hi : i < 12 := by have := nx hq; omega
    have w4 := (P7 q (List.mem_of_getElem? hq)).2.2.2.1
    have y2 := (P6 i q hq).2.1
    rw [f_X10_orders_96, show (46 : Nat) + 4 = 50 from rfl, hL.2.2.2.1, gb_ck_s (o_in hi (by omega)), o_cl (by omega), y2, if_pos (by rw [o_le (by omega) (by omega)]; omega)]
    unfold f_X10_orders_134
    rw [o_succ]
    exact ⟨g, rfl, h17, h, gb_Fr.rf⟩
  | succ d ih =>
    intro t0 F g σ ht hF hd hP hσ hk h h17
    obtain ⟨f, rfl⟩ : ∃ f, F = f + 1 := ⟨F - 1, by omega⟩
    have hP0 := hP
    obtain ⟨P1, P2, P3, P4, P5, P6, P7⟩ := hP0
    have hi : i < 12 := by have := nx hq; omega
    have wq := P7 q (List.mem_of_getElem? hq)
    have w4 := wq.2.2.2.1
    have y2 := (P6 i q hq).2.1
    have R := ro_c hL hσ (by omega) hP hq h
    rw [f_X10_orders_96, show (46 : Nat) + 4 = 50 from rfl, hL.2.2.2.1, gb_ck_s (o_in hi (by omega)), o_cl (by omega), y2, if_neg (by rw [o_le (by omega) (by omega)]; omega), if_pos h17, tmO]
    unfold f_X10_orders_128
    cases hs : stO q σ with
    | none =>
      rw [hs] at R
      obtain ⟨g', e, h3⟩ := R
      obtain ⟨Fr, F17⟩ := ro_fr e
      rw [e, bf, gb_let_s, o_succ]
      have Fr' : gb_Fr Wo g (gb_pi g' 0 17 (Int32.ofNat i)) := Fr.tr fun c k z => eqpi (by unfold Wo at z; omega)
      refine ⟨gb_pi g' 0 17 (Int32.ofNat i), ?_, pi_e, by rw [pi_n (by omega)]; exact h3, Fr'⟩
      obtain ⟨f, rfl⟩ : ∃ f', f = f' + 1 := ⟨f - 1, by omega⟩
      simp only []
      rw [f_X10_orders_96, show (46 : Nat) + 4 = 50 from rfl, hL.2.2.2.1, gb_ck_s (o_in hi (by omega))]
      unfold f_X10_orders_134
      rw [show (gb_pi g' 0 17 (Int32.ofNat i)).1 0 17 = Int32.ofNat i from pi_e, if_neg (i17 (by omega)), ite_self, o_succ]
    | some σ' =>
      rw [hs] at R
      obtain ⟨g', e, h3⟩ := R
      obtain ⟨Fr, F17⟩ := ro_fr e
      obtain ⟨u1, u2, u3⟩ := st_w wq hσ hk hs
      rw [e, bt, o_succ]
      have key := ih (t0 + 1) f g' σ' (by omega) (by omega) (by omega) (PGc_Wo hP Fr) u1 u3 h3 (F17.trans h17)
      simp only []
      cases hv : tmO q d σ' with
      | none =>
        rw [hv] at key
        obtain ⟨x, x1, x2, x3, x4⟩ := key
        exact ⟨x, x1, x2, x3, Fr.tr x4⟩
      | some σ2 =>
        rw [hv] at key
        obtain ⟨x, x1, x2, x3, x4⟩ := key
        exact ⟨x, x1, x2, x3, Fr.tr x4⟩
theorem tm_w {q : Cl} {φ : Bool} {β0 : ms_B} (hq : wfCl true φ q) : ∀ (t : Nat) (σ σ' : OS), wfO σ → kpB β0 σ.1 → tmO q t σ = some σ' → wfO σ' ∧ σ'.2.2.1 ≤ σ.2.2.1 + t ∧ kpB β0 σ'.1 := by
  intro t
  induction t with
  | zero => intro σ σ' h hk e; cases e; exact ⟨h, by omega, hk⟩
  | succ t ih =>
    intro σ σ' h hk e
    rw [tmO] at e
    cases hs : stO q σ with
    | none => rw [hs] at e; cases e
    | some σ1 =>
      rw [hs] at e
      obtain ⟨u1, u2, u3⟩ := st_w hq h hk hs
      obtain ⟨v1, v2, v3⟩ := ih σ1 σ' u1 u3 e
      exact ⟨v1, by omega, v3⟩
def T78 (sh : List gb_Sh) (g : gb_G) (X : Option (gb_G × Int32)) : Nat ⊕ OS → Prop
  | .inl j => ∃ g', X = f_X10_orders_140 sh g' ∧ g'.1 0 17 = Int32.ofNat j ∧ im9 (g'.1 75 3) ∧ gb_Fr Wo g g'
  | .inr σ' => ∃ g', X = f_X10_orders_140 sh g' ∧ g'.1 0 17 = -1 ∧ CSo sh g' σ' ∧ gb_Fr Wo g g'
theorem t78 {sh : List gb_Sh} {cs : List Cl} {c : Nat} {φ : Bool} {β0 : ms_B} (hL : LN sh) : ∀ (l : List Cl) (i F : Nat) (g : gb_G) (σ : OS), i + l.length = cs.length → (∀ k, l[k]? = cs[i + k]?) → l.length < F → σ.2.2.1 + 20 * l.length ≤ 1000 → PGc g cs c φ → wfO σ → kpB β0 σ.1 → CSo sh g σ → g.1 0 17 = -1 → T78 sh g (f_X10_orders_78 sh F g (Int32.ofNat i)) (rnO l i σ) := by
  intro l
  induction l with
  | nil =>
    intro i F g σ hl hk hF hd hP hσ hkp h h17
    obtain ⟨f, rfl⟩ : ∃ f, F = f + 1 := ⟨F - 1, by omega⟩
    have hl : i + 0 = cs.length := hl
    have P2 := hP.2.1
    rw [f_X10_orders_78, hP.2.2.2.1, if_pos (by rw [o_le (by omega) (by omega)]; omega)]
    exact ⟨g, rfl, h17, h, gb_Fr.rf⟩
  | cons q l ih =>
    intro i F g σ hl hk hF hd hP hσ hkp h h17
    obtain ⟨f, rfl⟩ : ∃ f, F = f + 1 := ⟨F - 1, by omega⟩
    rw [List.length_cons] at hl hF hd
    have P2 := hP.2.1
    have hq : cs[i]? = some q := (hk 0).symm
    have wq := hP.2.2.2.2.2.2 q (List.mem_of_getElem? hq)
    have w4 := wq.2.2.2.1
    have R := t96 (K := fun w w0 => f_X10_orders_78 sh f w w0) (β0 := β0) hL hq q.2.2.2.1 0 gb_N g σ (by omega) (by unfold gb_N; omega) (by omega) hP hσ hkp h h17
    rw [f_X10_orders_78, hP.2.2.2.1, if_neg (by rw [o_le (by omega) (by omega)]; omega), if_pos h17, rnO]
    cases hv : tmO q q.2.2.2.1 σ with
    | none =>
      rw [hv] at R
      obtain ⟨x, x1, x2, x3, x4⟩ := R
      refine ⟨x, x1.trans ?_, x2, x3, x4⟩
      obtain ⟨f, rfl⟩ : ∃ f', f = f' + 1 := ⟨f - 1, by omega⟩
      show f_X10_orders_78 sh (f + 1) x (Int32.ofNat (i + 1)) = _
      rw [f_X10_orders_78, x2, if_neg (i17 (by omega)), ite_self]
    | some σ' =>
      rw [hv] at R
      obtain ⟨x, x1, x2, x3, x4⟩ := R
      obtain ⟨u1, u2, u3⟩ := tm_w wq _ _ _ hσ hkp hv
      have key := ih (i + 1) f x σ' (by omega) (fun k => by rw [show i + 1 + k = i + (k + 1) by omega, ← hk (k + 1)]; rfl) (by omega) (by omega) (PGc_Wo hP x4) u1 u3 x3 x2
      simp only []
      cases hv2 : rnO l (i + 1) σ' with
      | inl j =>
        rw [hv2] at key
        obtain ⟨y, y1, y2, y3, y4⟩ := key
        exact ⟨y, x1.trans y1, y2, y3, x4.tr y4⟩
      | inr σ2 =>
        rw [hv2] at key
        obtain ⟨y, y1, y2, y3, y4⟩ := key
        exact ⟨y, x1.trans y1, y2, y3, x4.tr y4⟩
theorem rn_w {φ : Bool} {β0 : ms_B} : ∀ (l : List Cl) (i : Nat) (σ : OS), (∀ q ∈ l, wfCl true φ q) → wfO σ → kpB β0 σ.1 → (∀ j, rnO l i σ = .inl j → j < i + l.length) ∧ ∀ σ', rnO l i σ = .inr σ' → wfO σ' ∧ σ'.2.2.1 ≤ σ.2.2.1 + 20 * l.length ∧ kpB β0 σ'.1 := by
  intro l
  induction l with
  | nil =>
    intro i σ hq h hk
    refine ⟨fun j e => (nomatch e), fun σ' e => ?_⟩
    cases e
    exact ⟨h, by omega, hk⟩
  | cons q l ih =>
    intro i σ hq h hk
    have wq := hq q List.mem_cons_self
    have w4 := wq.2.2.2.1
    rw [rnO, List.length_cons]
    cases hv : tmO q q.2.2.2.1 σ with
    | none =>
      refine ⟨fun j e => ?_, fun σ' e => (nomatch e)⟩
      cases e; omega
    | some σ1 =>
      obtain ⟨u1, u2, u3⟩ := tm_w wq _ _ _ h hk hv
      obtain ⟨v1, v2⟩ := ih (i + 1) σ1 (fun x hx => hq x (List.mem_cons_of_mem _ hx)) u1 u3
      refine ⟨fun j e => by have := v1 j e; omega, fun σ' e => ?_⟩
      obtain ⟨a, b, c⟩ := v2 σ' e
      exact ⟨a, by omega, c⟩
/-! the reference -/
def Wr (c k : Nat) : Prop := (c = 77 ∧ (k = 8 ∨ k = 20 ∨ (34 ≤ k ∧ k ≤ 50) ∨ k = 52)) ∨ c = 79 ∨ c = 82 ∨ c = 83 ∨ (95 ≤ c ∧ c ≤ 97)
noncomputable def failO (sh : List gb_Sh) (g : gb_G) (y1 y2 : Int32) : Option (gb_G × Int32) := gb_bd (f_X11_giveBack sh g y1) (fun r18 => gb_let (gb_pi r18 77 51 y2) (fun g20 => gb_bd (f_X11_tell sh g20 (-3)) (fun r21 => some (r21.1, r21.2))))
def T150 (sh : List gb_Sh) (g : gb_G) (β0 : ms_B) (i : Nat) (y1 : Int32) (K : gb_G → Int32 → Int32 → Option (gb_G × Int32)) (X : Option (gb_G × Int32)) : Option OS → Prop
  | none => ∃ g' β', X = failO sh g' y1 (Int32.ofNat i) ∧ mvB (g'.1 79) β' ∧ wfB β' ∧ kpB β0 β' ∧ (∀ k, 432 ≤ k → g'.1 82 k = g.1 82 k) ∧ g'.1 77 20 = 0 ∧ gb_Fr Wr g g'
  | some σ' => ∃ g', X = K g' y1 (Int32.ofNat (i + 1)) ∧ MSo g' σ' ∧ (∀ k, 432 ≤ k → g'.1 82 k = g.1 82 k) ∧ gb_Fr Wr g g'
def PGm (g : gb_G) (cs : List Cl) (cd : Cd) (φ : Bool) : Prop := cd.1 ≤ 400 ∧ cs.length ≤ 12 ∧ g.1 77 21 = Int32.ofNat cs.length ∧ g.1 88 = cd.2.1 ∧ g.1 89 = cd.2.2 ∧ (∀ i q, cs[i]? = some q → gM true cd (g.1 103) i q) ∧ ∀ q ∈ cs, wfCl true φ q
theorem PGm_Wr {g g' : gb_G} {cs : List Cl} {cd : Cd} {φ : Bool} (h : PGm g cs cd φ) (F : gb_Fr Wr g g') : PGm g' cs cd φ := by
  obtain ⟨h1, h2, h3, h4, h5, h6, h7⟩ := h
  exact ⟨h1, h2, (F _ _ (by unfold Wr; omega)).1.trans h3, (funext fun k => (F 88 k (by unfold Wr; omega)).1).trans h4, (funext fun k => (F 89 k (by unfold Wr; omega)).1).trans h5, fun i q hq => gM_lo (h6 i q hq) lowR_rf (Nat.le_refl _) fun k _ => (F 103 _ (by unfold Wr; omega)).1, h7⟩
theorem t150 {sh : List gb_Sh} {cs : List Cl} {q : Cl} {i : Nat} {cd : Cd} {φ : Bool} {β0 : ms_B} {y1 : Int32} {K : gb_G → Int32 → Int32 → Option (gb_G × Int32)} (hq : cs[i]? = some q) : ∀ (d t0 F : Nat) (g : gb_G) (σ : OS), t0 + d = q.2.2.2.1 → d < F → σ.2.2.1 + d ≤ 1000 → PGm g cs cd φ → wfO σ → kpB β0 σ.1 → MSo g σ → T150 sh g β0 i y1 K (f_X11_orders_150 sh K F g y1 (Int32.ofNat i) (Int32.ofNat t0)) (tmO q d σ) := by
  intro d
  induction d with
  | zero =>
    intro t0 F g σ ht hF hd hP hσ hk h
    obtain ⟨f, rfl⟩ : ∃ f, F = f + 1 := ⟨F - 1, by omega⟩
    obtain ⟨P1, P2, P3, P4, P5, P6, P7⟩ := hP
    have hi : i < 12 := by have := nx hq; omega
    have w4 := (P7 q (List.mem_of_getElem? hq)).2.2.2.1
    have y7 : g.1 103 (8 * i + 7) = Int32.ofNat q.2.2.2.1 := by
      rcases (P6 i q hq).2.1 with z | z
      · exact absurd z.1 (by decide)
      · exact z.2.1
    rw [f_X11_orders_150, show (8 : Int32) = Int32.ofNat 8 from rfl, show (7 : Int32) = Int32.ofNat 7 from rfl, o_mul, o_add, gb_ck_s (o_in (by omega) (by omega)), o_cl (by omega), y7, if_pos (by rw [o_le (by omega) (by omega)]; omega), o_succ]
    exact ⟨g, rfl, h, fun _ _ => rfl, gb_Fr.rf⟩
  | succ d ih =>
    intro t0 F g σ ht hF hd hP hσ hk h
    obtain ⟨f, rfl⟩ : ∃ f, F = f + 1 := ⟨F - 1, by omega⟩
    have hP0 := hP
    obtain ⟨P1, P2, P3, P4, P5, P6, P7⟩ := hP0
    have hi : i < 12 := by have := nx hq; omega
    have wq := P7 q (List.mem_of_getElem? hq)
    have w4 := wq.2.2.2.1
    have y7 : g.1 103 (8 * i + 7) = Int32.ofNat q.2.2.2.1 := by
      rcases (P6 i q hq).2.1 with z | z
      · exact absurd z.1 (by decide)
      · exact z.2.1
    have R := ro_m (sh := sh) (g := g) hi hσ (by omega) P1 P4 P5 (P6 i q hq) wq h
    rw [f_X11_orders_150, show (8 : Int32) = Int32.ofNat 8 from rfl, show (7 : Int32) = Int32.ofNat 7 from rfl, o_mul, o_add, gb_ck_s (o_in (by omega) (by omega)), o_cl (by omega), y7, if_neg (by rw [o_le (by omega) (by omega)]; omega), tmO]
    cases hs : stO q σ with
    | none =>
      rw [hs] at R
      obtain ⟨g', e, h1, h2, h3⟩ := R
      have Fr : gb_Fr Wr g g' := gb_Fr.up (w_X11_run e) fun c k z => by unfold Wr; omega
      rw [e, gb_bd_s]
      simp only []
      rw [if_neg (by decide)]
      exact ⟨g', σ.1, rfl, h1, hσ.1, hk, h2, h3, Fr⟩
    | some σ' =>
      rw [hs] at R
      obtain ⟨g', e, h1, h2⟩ := R
      have Fr : gb_Fr Wr g g' := gb_Fr.up (w_X11_run e) fun c k z => by unfold Wr; omega
      obtain ⟨u1, u2, u3⟩ := st_w wq hσ hk hs
      rw [e, gb_bd_s]
      simp only []
      rw [if_pos (by decide), o_succ]
      have key := ih (t0 + 1) f g' σ' (by omega) (by omega) (by omega) (PGm_Wr hP Fr) u1 u3 h1
      cases hv : tmO q d σ' with
      | none =>
        rw [hv] at key
        obtain ⟨x, β', x1, x2, x3, x4, x5, x6, x7⟩ := key
        exact ⟨x, β', x1, x2, x3, x4, fun k hk => (x5 k hk).trans (h2 k hk), x6, Fr.tr x7⟩
      | some σ2 =>
        rw [hv] at key
        obtain ⟨x, x1, x2, x3, x4⟩ := key
        exact ⟨x, x1, x2, fun k hk => (x3 k hk).trans (h2 k hk), Fr.tr x4⟩
def T140 (sh : List gb_Sh) (g : gb_G) (β0 : ms_B) (y1 : Int32) (X : Option (gb_G × Int32)) : Nat ⊕ OS → Prop
  | .inl j => ∃ g' β', X = failO sh g' y1 (Int32.ofNat j) ∧ mvB (g'.1 79) β' ∧ wfB β' ∧ kpB β0 β' ∧ (∀ k, 432 ≤ k → g'.1 82 k = g.1 82 k) ∧ g'.1 77 20 = 0 ∧ gb_Fr Wr g g'
  | .inr σ' => ∃ g', X = gb_bd (f_X11_tell sh g' (g'.1 77 49)) (fun r13 => some (r13.1, r13.2)) ∧ MSo g' σ' ∧ gb_Fr Wr g g'
theorem t140 {sh : List gb_Sh} {cs : List Cl} {cd : Cd} {φ : Bool} {β0 : ms_B} {y1 : Int32} : ∀ (l : List Cl) (i F : Nat) (g : gb_G) (σ : OS), i + l.length = cs.length → (∀ k, l[k]? = cs[i + k]?) → l.length < F → σ.2.2.1 + 20 * l.length ≤ 1000 → PGm g cs cd φ → wfO σ → kpB β0 σ.1 → MSo g σ → T140 sh g β0 y1 (f_X11_orders_140 sh F g y1 (Int32.ofNat i)) (rnO l i σ) := by
  intro l
  induction l with
  | nil =>
    intro i F g σ hl hk hF hd hP hσ hkp h
    obtain ⟨f, rfl⟩ : ∃ f, F = f + 1 := ⟨F - 1, by omega⟩
    have hl : i + 0 = cs.length := hl
    have P2 := hP.2.1
    rw [f_X11_orders_140, hP.2.2.1, if_pos (by rw [o_le (by omega) (by omega)]; omega)]
    exact ⟨g, rfl, h, gb_Fr.rf⟩
  | cons q l ih =>
    intro i F g σ hl hk hF hd hP hσ hkp h
    obtain ⟨f, rfl⟩ : ∃ f, F = f + 1 := ⟨F - 1, by omega⟩
    rw [List.length_cons] at hl hF hd
    have P2 := hP.2.1
    have hq : cs[i]? = some q := (hk 0).symm
    have wq := hP.2.2.2.2.2.2 q (List.mem_of_getElem? hq)
    have w4 := wq.2.2.2.1
    have R := t150 (sh := sh) (y1 := y1) (K := fun w w0 w1 => f_X11_orders_140 sh f w w0 w1) (β0 := β0) hq q.2.2.2.1 0 gb_N g σ (by omega) (by unfold gb_N; omega) (by omega) hP hσ hkp h
    rw [f_X11_orders_140, hP.2.2.1, if_neg (by rw [o_le (by omega) (by omega)]; omega), rnO]
    cases hv : tmO q q.2.2.2.1 σ with
    | none =>
      rw [hv] at R
      obtain ⟨x, β', x1, x2⟩ := R
      exact ⟨x, β', x1, x2⟩
    | some σ' =>
      rw [hv] at R
      obtain ⟨x, x1, x2, x3, x4⟩ := R
      obtain ⟨u1, u2, u3⟩ := tm_w wq _ _ _ hσ hkp hv
      have key := ih (i + 1) f x σ' (by omega) (fun k => by rw [show i + 1 + k = i + (k + 1) by omega, ← hk (k + 1)]; rfl) (by omega) (by omega) (PGm_Wr hP x4) u1 u3 x2
      simp only []
      cases hv2 : rnO l (i + 1) σ' with
      | inl j =>
        rw [hv2] at key
        obtain ⟨y, β', y1, y2, y3, y4, y5, y6, y7⟩ := key
        exact ⟨y, β', x1.trans y1, y2, y3, y4, fun k hk => (y5 k hk).trans (x3 k hk), y6, x4.tr y7⟩
      | inr σ2 =>
        rw [hv2] at key
        obtain ⟨y, y1, y2, y3⟩ := key
        exact ⟨y, x1.trans y1, y2, x4.tr y3⟩
