/-! ===== the whole TEXT, in the reference ===== -/
/-- what reading a TEXT writes -/
def Wt (c k : Nat) : Prop := (c = 77 ∧ 13 ≤ k ∧ k ≤ 30) ∨ (87 ≤ c ∧ c ≤ 91) ∨ c = 103
/-- the reference has read these CLAUSES -/
def RZ (n : Nat) (B : Nat → Int32) (ord : Bool) (g : gb_G) (s l : Nat) (cd : Cd) (cs : List Cl) : Prop := RY n B ord g s l cd ∧ g.1 77 18 = -1 ∧ g.1 77 21 = Int32.ofNat cs.length ∧ ∀ i q, cs[i]? = some q → gM ord cd (g.1 (clC ord)) i q
def TR1 (n : Nat) (B : Nat → Int32) (ord : Bool) (g : gb_G) {α : Type} (En : gb_G → Option α) (X : Option α) : Nat ⊕ (List Cl × Bool) → Prop
  | .inl p => ∃ r, X = En r ∧ gb_Fr Wt g r ∧ (RB r p ∨ (mS r n B p ∧ r.1 77 19 = 0 ∧ ¬ p = n))
  | .inr (cs, _) => ∃ r l cd, X = En r ∧ gb_Fr Wt g r ∧ RZ n B ord r n l cd cs
theorem tx_m {α : Type} {sh : List gb_Sh} {n : Nat} {B : Nat → Int32} {ord : Bool} (L : Nat → gb_G → Option α) (Rd : gb_G → Option gb_G) (En : gb_G → Option α) (hn : n ≤ 400)
  (hL : ∀ F g, L (F + 1) g = if g.1 77 19 = 0 then gb_bd (f_X11_isSign sh g 59) (fun r => if r.2 = 0 then En r.1 else gb_bd (f_X11_next sh r.1) (fun r2 => gb_bd (Rd r2) (fun r3 => L F r3))) else En g)
  (hR : ∀ g s l cd m, m < 12 → RY n B ord g s l cd → g.1 77 21 = Int32.ofNat m → MO n B ord g m cd (Rd g) (clO n B ord s l))
  (hR12 : ∀ g s l cd, RY n B ord g s l cd → g.1 77 21 = Int32.ofNat 12 → ∃ r, Rd g = some r ∧ RB r s)
  (hK : ∀ g o, Rd g = some o → gK g o) (hF : ∀ g o, Rd g = some o → gb_Fr Wt g o) :
  ∀ (f : Nat) (g : gb_G) (s l : Nat) (φ : Bool) (cd : Cd) (cs : List Cl) (F : Nat), cs.length + f = 12 → f < F → RZ n B ord g s l cd cs → TR1 n B ord g En (gb_bd (Rd g) (fun r3 => L F r3)) (txO n B ord f s l cs φ) := by
  intro f
  induction f with
  | zero =>
    intro g s l φ cd cs F hf hF0 h
    obtain ⟨F, rfl⟩ : ∃ f, F = f + 1 := ⟨F - 1, by omega⟩
    have e12 : cs.length = 12 := by omega
    obtain ⟨r, r1, r2⟩ := hR12 g s l cd h.1 (by rw [← e12]; exact h.2.2.1)
    rw [txO, r1, gb_bd_s, hL, if_neg (by rw [r2.1]; decide)]
    exact ⟨r, rfl, hF _ _ r1, Or.inl r2⟩
  | succ f ih =>
    intro g s l φ cd cs F hf hF0 h
    obtain ⟨F, rfl⟩ : ∃ f, F = f + 1 := ⟨F - 1, by omega⟩
    obtain ⟨h1, h2, h3, h4⟩ := h
    have k := hR g s l cd cs.length (by omega) h1 h3
    have v := clO_v (B := B) (ord := ord) hn h1.1.2.1 h1.2.2.2.2.2.2.2
    rw [txO]
    cases ho : clO n B ord s l with
    | inl p =>
      rw [ho] at k
      obtain ⟨r, r1, r2⟩ := k
      rw [r1, gb_bd_s, hL, if_neg (by rw [r2.1]; decide)]
      exact ⟨r, rfl, hF _ _ r1, Or.inl r2⟩
    | inr x =>
      obtain ⟨s', l', q, φ'⟩ := x
      rw [ho] at k v
      obtain ⟨r, cd', r1, r2, r3, r4, r5, r6, r7⟩ := k
      obtain ⟨v1, v2, v3, v4, v5⟩ := v
      have r8 : r.1 77 18 = -1 := hK _ _ r1 (fun _ => h2) r2.2.1
      have hlen : (cs ++ [q]).length = cs.length + 1 := by rw [List.length_append, List.length_singleton]
      have hg : ∀ i x, (cs ++ [q])[i]? = some x → gM ord cd' (r.1 (clC ord)) i x := by
        intro i x hx
        by_cases hi : i < cs.length
        · rw [List.getElem?_append_left hi] at hx
          exact gM_lo (h4 i x hx) r3 r4 fun k hk => r7 _ (by omega)
        · rw [List.getElem?_append_right (by omega)] at hx
          have hi2 := nx hx
          rw [List.length_singleton] at hi2
          have ei : i = cs.length := by omega
          subst ei
          rw [Nat.sub_self] at hx
          cases hx
          exact r6
      rw [r1, gb_bd_s, hL, if_pos r2.2.1, sg_m r2.1 (by decide), gb_bd_s]
      simp only []
      by_cases z : isG n B s' 59
      · rw [if_pos z, if_pos z, if_neg (show ¬ (1 : Int32) = 0 by decide)]
        obtain ⟨o, eo, mo⟩ := next_m (sh := sh) hn r2.1
        have N := nx_k eo
        rw [eo, gb_bd_s]
        have key := ih o (tn n B s') l' (φ || φ') cd' (cs ++ [q]) F (by rw [hlen]; omega) (by omega) ⟨RY_fr r2 mo (tn_b v2).1 fun c k q => N c k (by omega), (N 77 18 (by omega)).1.trans r8, by rw [hlen]; exact (N 77 21 (by omega)).1.trans r5, fun i x hx => gM_lo (hg i x hx) lowR_rf (Nat.le_refl _) fun k hk => (N _ _ (by unfold clC; split <;> omega)).1⟩
        have Fo : gb_Fr Wt g o := fun c k hk => eqc_tr (hF _ _ r1 c k hk) (N c k (by unfold Wt at hk; omega))
        cases ho2 : txO n B ord f (tn n B s') l' (cs ++ [q]) (φ || φ') with
        | inl p =>
          rw [ho2] at key
          obtain ⟨y, y1, y2, y3⟩ := key
          exact ⟨y, y1, Fo.tr y2, y3⟩
        | inr x =>
          rw [ho2] at key
          obtain ⟨xs, xp⟩ := x
          obtain ⟨y, yl, ycd, y1, y2, y3⟩ := key
          exact ⟨y, yl, ycd, y1, Fo.tr y2, y3⟩
      · rw [if_neg z, if_neg z, if_pos rfl]
        by_cases w : s' = n
        · subst w
          rw [if_pos rfl]
          exact ⟨r, l', cd', rfl, hF _ _ r1, r2, r8, by rw [hlen]; exact r5, hg⟩
        · rw [if_neg w]
          exact ⟨r, rfl, hF _ _ r1, Or.inr ⟨r2.1, r2.2.1, w⟩⟩
/-- behind endText() -/
def TE1 (ord : Bool) (g : gb_G) {α : Type} (K : gb_G → Option α) (X : Option α) : Nat ⊕ (List Cl × Bool) → Prop
  | .inl p => ∃ r, X = K r ∧ gb_Fr Wt g r ∧ RB r p ∧ r.1 77 20 = 0 ∧ r.1 77 13 = 0
  | .inr (cs, _) => ∃ r cd, X = K r ∧ gb_Fr Wt g r ∧ r.1 77 19 = 0 ∧ r.1 77 18 = -1 ∧ r.1 77 20 = 0 ∧ r.1 77 13 = 0 ∧ cdE r cd ∧ cd.1 ≤ 400 ∧ r.1 77 21 = Int32.ofNat cs.length ∧ ∀ i q, cs[i]? = some q → gM ord cd (r.1 (clC ord)) i q
theorem et19 {sh : List gb_Sh} {g : gb_G} : f_X11_endText_19 sh g = some (gb_pi (gb_pi g 77 20 0) 77 13 0) := rfl
theorem Wt_pi {g : gb_G} {k : Nat} {x : Int32} (h : 13 ≤ k ∧ k ≤ 30) : gb_Fr Wt g (gb_pi g 77 k x) := fun c j hj => eqpi (by unfold Wt at hj; omega)
theorem et_m {α : Type} {sh : List gb_Sh} {n : Nat} {B : Nat → Int32} {ord : Bool} {g : gb_G} {K : gb_G → Option α} {X : Option α} {o : Nat ⊕ (List Cl × Bool)} (hn : n ≤ 400) (h : TR1 n B ord g (fun r => gb_bd (f_X11_endText sh r) K) X o) : TE1 ord g K X o := by
  cases o with
  | inl p =>
    obtain ⟨r, h1, h2, h3⟩ := h
    rcases h3 with h3 | ⟨h3, h4, h5⟩
    · refine ⟨gb_pi (gb_pi r 77 20 0) 77 13 0, ?_, h2.tr ((Wt_pi (by omega)).tr (Wt_pi (by omega))), ⟨(pi_n (by omega)).trans ((pi_n (by omega)).trans h3.1), (pi_n (by omega)).trans ((pi_n (by omega)).trans h3.2)⟩, (pi_n (by omega)).trans pi_e, pi_e⟩
      rw [h1]
      simp only []
      unfold f_X11_endText
      rw [if_neg (by rw [h3.1]; decide), et19, gb_bd_s]
    · have hb := h3.2.1
      have es : ¬ Int32.ofNat (so n B p) = 0 := by
        have hle := so_le (n := n) (B := B) (t := p)
        intro z
        have := o_inj (j := 0) (by omega) (by omega) z
        unfold so at this
        rw [if_pos (by omega)] at this
        split at this <;> omega
      refine ⟨gb_pi (gb_pi (gb_pi (gb_pi r 77 19 1) 77 18 (Int32.ofNat p)) 77 20 0) 77 13 0, ?_, h2.tr ((Wt_pi (by omega)).tr ((Wt_pi (by omega)).tr ((Wt_pi (by omega)).tr (Wt_pi (by omega))))), ⟨(pi_n (by omega)).trans ((pi_n (by omega)).trans rbf.1), (pi_n (by omega)).trans ((pi_n (by omega)).trans rbf.2)⟩, (pi_n (by omega)).trans pi_e, pi_e⟩
      rw [h1]
      simp only []
      unfold f_X11_endText
      rw [if_pos h4, h3.2.2.2.2.1, if_neg es, must_f h3 h4, gb_bd_s, et19, gb_bd_s]
  | inr x =>
    obtain ⟨cs, φ⟩ := x
    obtain ⟨r, l, cd, h1, h2, h3, h4, h5, h6⟩ := h
    obtain ⟨a1, a2, a3, a4, ⟨b1, b2, b3⟩, a6, a7, a8⟩ := h3
    have e0 : so n B n = 0 := by unfold so; rw [if_neg (by omega)]
    have E : ∀ c k, ¬ (c = 77 ∧ (k = 13 ∨ k = 20)) → (gb_pi (gb_pi r 77 20 0) 77 13 0).1 c k = r.1 c k := fun c k q => (pi_n (by omega)).trans (pi_n (by omega))
    refine ⟨gb_pi (gb_pi r 77 20 0) 77 13 0, cd, ?_, h2.tr ((Wt_pi (by omega)).tr (Wt_pi (by omega))), (E _ _ (by omega)).trans a2, (E _ _ (by omega)).trans h4, (pi_n (by omega)).trans pi_e, pi_e, ⟨(E _ _ (by omega)).trans b1, (funext fun k => E 88 k (by omega)).trans b2, (funext fun k => E 89 k (by omega)).trans b3⟩, by omega, (E _ _ (by omega)).trans h5, fun i q hq => gM_lo (h6 i q hq) lowR_rf (Nat.le_refl _) fun k hk => E _ _ (by unfold clC; split <;> omega)⟩
    rw [h1]
    simp only []
    unfold f_X11_endText
    rw [if_pos a2, a1.2.2.2.2.1, e0, if_pos (show Int32.ofNat 0 = (0 : Int32) from rfl), et19, gb_bd_s]
theorem bt_m {sh : List gb_Sh} {n : Nat} {B : Nat → Int32} {ord : Bool} {g : gb_G} (hn : n ≤ 400) (h : mvTp g n B) (hc : mvC g) : ∃ r, f_X11_beginText sh g (if ord = true then 1 else 0) = some r ∧ gb_Fr Wt g r ∧ RZ n B ord r (skp n B 400 0) 0 (0, r.1 88, r.1 89) [] := by
  have h' : mvTp (gb_pi g 77 20 (if ord = true then 1 else 0)) n B := ⟨(pi_n (by omega)).trans h.1, fun j hj => (pi_n (by omega)).trans (h.2 j hj)⟩
  obtain ⟨o, e, m1, m2, m3⟩ := beg_m (sh := sh) hn h'
  have F := w_X11_begin e
  have hx : (if ord = true then (1 : Int32) else 0) = 0 ∨ (if ord = true then (1 : Int32) else 0) = 1 := by cases ord <;> decide
  refine ⟨gb_pi (gb_pi (gb_pi o 77 21 0) 77 23 0) 77 26 0, ?_, ?_, ⟨?_, ?_, ?_, ?_, ⟨?_, rfl, rfl⟩, ?_, Nat.zero_le _, Nat.zero_le _⟩, ?_, ?_, ?_⟩
  · unfold f_X11_beginText
    rw [gb_bo, if_pos hx, gb_let_s, e, gb_bd_s, gb_let_s, gb_let_s, gb_let_s]
  · exact (Wt_pi (by omega)).tr (gb_Fr.tr (gb_Fr.up F fun c k q => by unfold Wt; omega) ((Wt_pi (by omega)).tr ((Wt_pi (by omega)).tr (Wt_pi (by omega)))))
  · exact mS_e m1 fun c k q => eqc_tr (eqpi (by omega)) (eqc_tr (eqpi (by omega)) (eqpi (by omega)))
  · rw [pi_n (by omega), pi_n (by omega), pi_n (by omega)]; exact m2
  · rw [pi_n (by omega), pi_n (by omega), pi_n (by omega), (F 77 20 (by omega)).1]; exact pi_e
  · exact pi_e
  · rw [pi_n (by omega)]; exact pi_e
  · exact mvC_fr hc fun c k q => eqc_tr (eqpi (by omega)) (eqc_tr (F c k (by omega)) (eqc_tr (eqpi (by omega)) (eqc_tr (eqpi (by omega)) (eqpi (by omega)))))
  · rw [pi_n (by omega), pi_n (by omega), pi_n (by omega)]; exact m3
  · rw [pi_n (by omega), pi_n (by omega)]; exact pi_e
  · intro i q hq; cases hq
theorem TE1_up {ord : Bool} {g g1 : gb_G} {α : Type} {K : gb_G → Option α} {X : Option α} {o : Nat ⊕ (List Cl × Bool)} (F : gb_Fr Wt g g1) (h : TE1 ord g1 K X o) : TE1 ord g K X o := by
  cases o with
  | inl p =>
    obtain ⟨r, h1, h2, h3⟩ := h
    exact ⟨r, h1, F.tr h2, h3⟩
  | inr x =>
    obtain ⟨cs, φ⟩ := x
    obtain ⟨r, cd, h1, h2, h3⟩ := h
    exact ⟨r, cd, h1, F.tr h2, h3⟩
noncomputable def lawK (sh : List gb_Sh) (r6 : gb_G) : Option (gb_G × Int32) := if (r6.1 77 19) = 0 then (gb_ck ((120 + (900 * (r6.1 79 3))) + 1) 5520 (gb_let (gb_pi r6 79 (((120 + (900 * (r6.1 79 3))) + 1).toNatClampNeg) (r6.1 77 21)) (fun g9 => f_X11_law_110 sh gb_N g9 (120 + (900 * (r6.1 79 3))) 0))) else (gb_bd (f_X11_tell sh r6 (-6)) (fun r22 => some (r22.1, r22.2)))
noncomputable def ordK (sh : List gb_Sh) (r7 : gb_G) : Option (gb_G × Int32) := if (r7.1 77 19) = 0 then (gb_bd (f_X11_keepAll sh r7 17) (fun r9 => f_X11_orders_77 sh gb_N r9 (r9.1 77 8) 0)) else (gb_bd (f_X11_tell sh r7 (-6)) (fun r29 => some (r29.1, r29.2)))
/-- law(), up to the end of the TEXT -/
theorem lawt_m {sh : List gb_Sh} {n : Nat} {B : Nat → Int32} {g : gb_G} (hn : n ≤ 400) (h : mvTp g n B) (hc : mvC g) (h6 : ¬ g.1 79 3 = 6) : TE1 false (gb_pi g 77 0 0) (lawK sh) (f_X11_law sh g) (txO n B false 12 (skp n B 400 0) 0 [] false) := by
  have h' : mvTp (gb_pi g 77 0 0) n B := ⟨(pi_n (by omega)).trans h.1, fun j hj => (pi_n (by omega)).trans (h.2 j hj)⟩
  have hc' : mvC (gb_pi g 77 0 0) := mvC_fr hc fun c k q => eqpi (by omega)
  obtain ⟨r, e1, e2, e3⟩ := bt_m (sh := sh) (ord := false) hn h' hc'
  have key := tx_m (sh := sh) (ord := false) (fun F g => f_X11_law_37 sh F g) (fun g => f_X11_readLaw sh g) (fun g => f_X11_law_64 sh g) hn (fun F g => by rw [f_X11_law_37]) (fun g s l cd m hm hr h21 => law_m hn hm hr h21) (fun g s l cd hr h21 => law_m12 hn hr h21) (fun g o e => k_X11_readLaw e) (fun g o e => gb_Fr.up (w_X11_readLaw e) fun c k q => by unfold Wt; omega) 12 r (skp n B 400 0) 0 false (0, r.1 88, r.1 89) [] gb_N rfl (by decide) e3
  have e0 : f_X11_law sh g = gb_bd (f_X11_readLaw sh r) (fun r4 => f_X11_law_37 sh gb_N r4) := by
    unfold f_X11_law
    have e1 : f_X11_beginText sh (gb_pi g 77 0 0) 0 = some r := e1
    rw [gb_let_s, if_neg (by rw [pi_n (by omega)]; exact h6), e1, gb_bd_s]
  rw [e0]
  have key : TR1 n B false r (fun r => gb_bd (f_X11_endText sh r) (lawK sh)) _ _ := key
  exact TE1_up e2 (et_m hn key)
/-- orders(), up to the end of the TEXT -/
theorem ordt_m {sh : List gb_Sh} {n : Nat} {B : Nat → Int32} {g : gb_G} (hn : n ≤ 400) (h : mvTp g n B) (hc : mvC g) : TE1 true (gb_pi (gb_pi g 77 0 0) 77 51 (-1)) (ordK sh) (f_X11_orders sh g) (txO n B true 12 (skp n B 400 0) 0 [] false) := by
  have h' : mvTp (gb_pi (gb_pi g 77 0 0) 77 51 (-1)) n B := ⟨(pi_n (by omega)).trans ((pi_n (by omega)).trans h.1), fun j hj => (pi_n (by omega)).trans ((pi_n (by omega)).trans (h.2 j hj))⟩
  have hc' : mvC (gb_pi (gb_pi g 77 0 0) 77 51 (-1)) := mvC_fr hc fun c k q => eqc_tr (eqpi (by omega)) (eqpi (by omega))
  obtain ⟨r, e1, e2, e3⟩ := bt_m (sh := sh) (ord := true) hn h' hc'
  have key := tx_m (sh := sh) (ord := true) (fun F g => f_X11_orders_19 sh F g) (fun g => f_X11_readOrder sh g) (fun g => f_X11_orders_46 sh g) hn (fun F g => by rw [f_X11_orders_19]) (fun g s l cd m hm hr h21 => ord_m hn hm hr h21) (fun g s l cd hr h21 => ord_m12 hn hr h21) (fun g o e => k_X11_readOrder e) (fun g o e => gb_Fr.up (w_X11_readOrder e) fun c k q => by unfold Wt; omega) 12 r (skp n B 400 0) 0 false (0, r.1 88, r.1 89) [] gb_N rfl (by decide) e3
  have e0 : f_X11_orders sh g = gb_bd (f_X11_readOrder sh r) (fun r5 => f_X11_orders_19 sh gb_N r5) := by
    unfold f_X11_orders
    have e1 : f_X11_beginText sh (gb_pi (gb_pi g 77 0 0) 77 51 (-1)) 1 = some r := e1
    rw [gb_let_s, gb_let_s, e1, gb_bd_s]
  rw [e0]
  have key : TR1 n B true r (fun r => gb_bd (f_X11_endText sh r) (ordK sh)) _ _ := key
  exact TE1_up e2 (et_m hn key)
