/-! ===== CLAUSES of the class, from their heads; the whole TEXT ===== -/
theorem wi_1 {sh : List gb_Sh} {g : gb_G} {x : Nat} (hx : x ≤ 2000) : f_X10_within sh g (Int32.ofNat x) 1 20 = some (g, if 1 ≤ x ∧ x ≤ 20 then 1 else 0) := by
  by_cases q : 1 ≤ x ∧ x ≤ 20
  · rw [if_pos q, within_t (lo := 1) (hi := 20) (by rw [im, o_int (by omega)]; omega) rfl rfl]
  · rw [if_neg q, within_f (lo := 1) (hi := 20) (by rw [im, o_int (by omega)]; omega) rfl rfl]
theorem CSt_g {n : Nat} {B : Nat → Int32} {ord : Bool} {g g' : gb_G} {s l c : Nat} {φ : Bool} (h : CSt n B ord g s l c φ) (e : ∀ a k, a = 43 ∨ a = 44 ∨ a = 45 ∨ (a = 46 ∧ (k = 0 ∨ k = 7)) → g'.1 a k = g.1 a k) : CSt n B ord g' s l c φ := by
  obtain ⟨a1, a2, a3, a4, a5, a6, a7⟩ := h
  exact ⟨cS_fr a1 fun a k q => e a k (by omega), (e _ _ (by omega)).trans a2, (e _ _ (by omega)).trans a3, (e _ _ (by omega)).trans a4, (e _ _ (by omega)).trans a5, a6, a7⟩
/-- "times" -/
theorem rt_t {sh : List gb_Sh} {n s l c m : Nat} {B : Nat → Int32} {ord φ : Bool} {g : gb_G} (hn : n ≤ 400) (hL : LN sh) (hm : m < 12) (h : CSt n B ord g s l c φ) (h3 : g.1 46 3 = Int32.ofNat m) (hk : kd n B s = 2) (h1 : 1 ≤ NV n B s) (h2 : NV n B s ≤ 20) : ∃ o, f_X8_readTimes sh g = some (o, 1) ∧ CSt n B ord o (tn n B s) l c φ ∧ o.1 50 m = Int32.ofNat (NV n B s) ∧ (∀ a k, ¬ a = 43 → ¬ (a = 50 ∧ k = m) → o.1 a k = g.1 a k) := by
  have hc : CSt n B ord (gb_pi g 50 m (Int32.ofNat (NV n B s))) s l c φ := CSt_g h fun a k q => pi_n (by omega)
  obtain ⟨o, e, c1⟩ := step_c (sh := sh) hn hc.1
  obtain ⟨f1, f2, f3⟩ := stpK hc c1 e
  refine ⟨o, ?_, f1, (f2 50 m (by omega)).trans pi_e, fun a k q1 q2 => (f2 a k q1).trans (pi_n (by omega))⟩
  unfold f_X8_readTimes
  rw [num_c hn h.1 hk, gb_bd_s]
  simp only []
  rw [show min 1001 (NV n B s) = NV n B s by omega, wi_1 (by omega), if_pos ⟨h1, h2⟩, bt]
  simp only []
  rw [h3, within_t (lo := 0) (hi := 11) (by rw [im, o_int (by omega)]; omega) rfl rfl, bt]
  simp only []
  rw [h3, show (46 : Nat) + 4 = 50 from rfl, hL.2.2.2.1, gb_ck_s (o_in hm (by omega)), o_cl (by omega), gb_let_s, e, gb_bd_s]
theorem rt_f {sh : List gb_Sh} {n s l c : Nat} {B : Nat → Int32} {ord φ : Bool} {g : gb_G} (hn : n ≤ 400) (h : CSt n B ord g s l c φ) (q : ¬ (kd n B s = 2 ∧ 1 ≤ NV n B s ∧ NV n B s ≤ 20)) : f_X8_readTimes sh g = some (g, 0) := by
  unfold f_X8_readTimes
  by_cases hk : kd n B s = 2
  · rw [num_c hn h.1 hk, gb_bd_s]
    simp only []
    rw [wi_1 (by omega), if_neg (by omega), bf]
  · rw [num_cn h.1 hk, gb_bd_s]
    simp only []
    rw [within_f (lo := 1) (hi := 20) (by rw [im]; decide) rfl rfl, bf]
theorem ordi {n s l c : Nat} {B : Nat → Int32} {ord φ : Bool} {g : gb_G} (h : CSt n B ord g s l c φ) : (g.1 45 2 = 0 ∧ ord = false) ∨ (¬ g.1 45 2 = 0 ∧ ord = true) := by
  have := h.2.1
  cases ord with
  | true => exact Or.inr ⟨by rw [this]; decide, rfl⟩
  | false => exact Or.inl ⟨this, rfl⟩
theorem c98 {sh : List gb_Sh} {n s l c m k a0 a1 : Nat} {B : Nat → Int32} {ord φ0 φ : Bool} {g : gb_G} {D1 D2 : Option Den} (hn : n ≤ 400) (hB : ∀ j, j < n → im 0 255 (B j)) (hL : LN sh) (hm : m < 12) (h : CSt n B ord g s l c (φ0 || φ)) (h3 : g.1 46 3 = Int32.ofNat m) (hk : g.1 49 m = Int32.ofNat k) (ht : g.1 50 m = Int32.ofNat 1) (b0 : g.1 51 (3 * m) = Int32.ofNat a0) (b1 : g.1 51 (3 * m + 1) = Int32.ofNat a1) (p1 : pC (g.1 47) (g.1 48) (nW ord) a0 a1 D1) (p2 : pC (g.1 47) (g.1 48) (nW ord) a1 c D2) : KO n B ord g m c φ0 (f_X8_readClause_98 sh g) (cl3 n B ord k D1 D2 φ s l) := by
  unfold f_X8_readClause_98
  rw [show (1 : Int32) = Int32.ofNat 1 from rfl, endP_c hL.2.2.2.2 h3 hm (by omega), gb_bd_s, show m * 3 + 1 + 1 = 3 * m + 2 by omega, h.2.2.2.1]
  have E : ∀ a k, ¬ (a = 51 ∧ k = 3 * m + 2) → (gb_pi g 51 (3 * m + 2) (Int32.ofNat c)).1 a k = g.1 a k := fun a k q => pi_n q
  have e2 : (gb_pi g 51 (3 * m + 2) (Int32.ofNat c)).1 51 (3 * m + 2) = Int32.ofNat c := pi_e
  generalize gb_pi g 51 (3 * m + 2) (Int32.ofNat c) = g1 at E e2
  have k1 : KP g g1 m c := ⟨fun i _ => ⟨E _ _ (by omega), E _ _ (by omega)⟩, fun i _ => ⟨E _ _ (by omega), E _ _ (by omega)⟩, fun i _ => E _ _ (by omega)⟩
  have h' : CSt n B ord g1 s l c (φ0 || φ) := CSt_g h fun a k q => E a k (by omega)
  have p1' : pC (g1.1 47) (g1.1 48) (nW ord) a0 a1 D1 := pC_eq p1 fun i _ _ => ⟨E _ _ (by omega), E _ _ (by omega)⟩
  have p2' : pC (g1.1 47) (g1.1 48) (nW ord) a1 c D2 := pC_eq p2 fun i _ _ => ⟨E _ _ (by omega), E _ _ (by omega)⟩
  have h3' := (E 46 3 (by omega)).trans h3
  have hk' := (E 49 m (by omega)).trans hk
  have ht' := (E 50 m (by omega)).trans ht
  have b0' := (E 51 (3 * m) (by omega)).trans b0
  have b1' := (E 51 (3 * m + 1) (by omega)).trans b1
  refine KO_up ?_ k1 (Nat.le_refl _)
  unfold cl3
  rcases ordi h' with ⟨o1, o2⟩ | ⟨o1, o2⟩
  · rw [if_pos o1, if_neg (fun z => by rw [o2] at z; exact absurd z.1 (by decide))]
    exact c131 hn hB hL hm h' h3' hk' ht' b0' b1' e2 p1' p2'
  · rw [if_neg o1]
    by_cases q : isK n B s 3
    · obtain ⟨o, e1, c2, c3⟩ := kw_t (sh := sh) hn (show 2 ≤ 3 ∧ 3 ≤ 7 by omega) h'.1 q
      obtain ⟨f1, f2, f3⟩ := stpK h' c2 c3
      rw [if_pos ⟨o2, q⟩, e1, bt]
      simp only []
      by_cases q2 : kd n B (tn n B s) = 2 ∧ 1 ≤ NV n B (tn n B s) ∧ NV n B (tn n B s) ≤ 20
      · obtain ⟨r, r1, r2, r3, r4⟩ := rt_t (sh := sh) hn hL hm f1 (f3.2.1.trans h3') q2.1 q2.2.1 q2.2.2
        rw [if_pos q2, r1, bt]
        simp only []
        have R : ∀ a k, ¬ a = 43 → ¬ (a = 50 ∧ k = m) → r.1 a k = g1.1 a k := fun a k z1 z2 => (r4 a k z1 z2).trans (f2 a k z1)
        refine KO_up (c1 := c) (c131 hn hB hL hm r2 ((R _ _ (by omega) (by omega)).trans h3') ((R _ _ (by omega) (by omega)).trans hk') r3 ((R _ _ (by omega) (by omega)).trans b0') ((R _ _ (by omega) (by omega)).trans b1') ((R _ _ (by omega) (by omega)).trans e2) (pC_eq p1' fun i _ _ => ⟨R _ _ (by omega) (by omega), R _ _ (by omega) (by omega)⟩) (pC_eq p2' fun i _ _ => ⟨R _ _ (by omega) (by omega), R _ _ (by omega) (by omega)⟩)) ?_ (Nat.le_refl _)
        exact ⟨fun i _ => ⟨R _ _ (by omega) (by omega), R _ _ (by omega) (by omega)⟩, fun i _ => ⟨R _ _ (by omega) (by omega), R _ _ (by omega) (by omega)⟩, fun i _ => R _ _ (by omega) (by omega)⟩
      · rw [if_neg q2, rt_f hn f1 q2, bf]
        exact ⟨o, rfl, c2, f2 _ _ (by omega)⟩
    · rw [if_neg (fun z => q z.2), kw_f hn (show 2 ≤ 3 ∧ 3 ≤ 7 by omega) h'.1 q, bf]
      exact c131 hn hB hL hm h' h3' hk' ht' b0' b1' e2 p1' p2'
theorem c59 {sh : List gb_Sh} {n s l c m k a0 : Nat} {B : Nat → Int32} {ord φ0 φ : Bool} {g : gb_G} {D1 : Option Den} (hn : n ≤ 400) (hB : ∀ j, j < n → im 0 255 (B j)) (hL : LN sh) (hm : m < 12) (hk3 : k ≤ 3) (h : CSt n B ord g s l c (φ0 || φ)) (h3 : g.1 46 3 = Int32.ofNat m) (hk : g.1 49 m = Int32.ofNat k) (ht : g.1 50 m = Int32.ofNat 1) (b0 : g.1 51 (3 * m) = Int32.ofNat a0) (p1 : pC (g.1 47) (g.1 48) (nW ord) a0 c D1) : KO n B ord g m c φ0 (f_X8_readClause_59 sh g (Int32.ofNat k)) (cl2 n B ord k D1 φ s l) := by
  unfold f_X8_readClause_59
  rw [show (0 : Int32) = Int32.ofNat 0 from rfl, endP_c hL.2.2.2.2 h3 hm (by omega), gb_bd_s, show m * 3 + 0 + 1 = 3 * m + 1 by omega, h.2.2.2.1]
  have E : ∀ a k, ¬ (a = 51 ∧ k = 3 * m + 1) → (gb_pi g 51 (3 * m + 1) (Int32.ofNat c)).1 a k = g.1 a k := fun a k q => pi_n q
  have e2 : (gb_pi g 51 (3 * m + 1) (Int32.ofNat c)).1 51 (3 * m + 1) = Int32.ofNat c := pi_e
  generalize gb_pi g 51 (3 * m + 1) (Int32.ofNat c) = g1 at E e2
  have k1 : KP g g1 m c := ⟨fun i _ => ⟨E _ _ (by omega), E _ _ (by omega)⟩, fun i _ => ⟨E _ _ (by omega), E _ _ (by omega)⟩, fun i _ => E _ _ (by omega)⟩
  have h' : CSt n B ord g1 s l c (φ0 || φ) := CSt_g h fun a k q => E a k (by omega)
  have p1' : pC (g1.1 47) (g1.1 48) (nW ord) a0 c D1 := pC_eq p1 fun i _ _ => ⟨E _ _ (by omega), E _ _ (by omega)⟩
  have h3' := (E 46 3 (by omega)).trans h3
  have hk' := (E 49 m (by omega)).trans hk
  have ht' := (E 50 m (by omega)).trans ht
  have b0' := (E 51 (3 * m) (by omega)).trans b0
  refine KO_up ?_ k1 (Nat.le_refl _)
  unfold cl2
  rcases ordi h' with ⟨o1, o2⟩ | ⟨o1, o2⟩
  · rw [show (Int32.ofNat 0) = (0 : Int32) from rfl, if_pos o1, if_neg (fun z => by rw [o2] at z; exact absurd z.1 (by decide))]
    exact c98 hn hB hL hm h' h3' hk' ht' b0' e2 p1' rfl
  · rw [show (Int32.ofNat 0) = (0 : Int32) from rfl, if_neg o1]
    by_cases q : k = 2
    · subst q
      rw [if_pos (show Int32.ofNat 2 = (2 : Int32) from rfl), if_pos ⟨o2, rfl⟩]
      by_cases q : isK n B s 2
      · obtain ⟨o, e1, c2, c3⟩ := kw_t (sh := sh) hn (show 2 ≤ 2 ∧ 2 ≤ 7 by omega) h'.1 q
        obtain ⟨f1, f2, f3⟩ := stpK h' c2 c3
        rw [if_pos q, e1, bt]
        simp only []
        have r := rdK hn hB hL (Or.inl rfl) f1
        cases ho : spO n B ord 60 0 0 (tn n B s) l with
        | inl p =>
          rw [ho] at r
          obtain ⟨r, r1, r2, r3⟩ := r
          rw [r1, bf]
          exact ⟨r, rfl, r2, r3.trans (f2 _ _ (by omega))⟩
        | inr x =>
          obtain ⟨s', l', D, φ'⟩ := x
          rw [ho] at r
          obtain ⟨r, c', r1, r2, r3, r4⟩ := r
          rw [r1, bt]
          simp only []
          rw [Bool.or_assoc] at r2
          exact KO_up (c98 hn hB hL hm r2 (r4.2.1.trans (f3.2.1.trans h3')) ((r4.2.2 _).1.trans ((f3.2.2 _).1.trans hk')) ((r4.2.2 _).2.1.trans ((f3.2.2 _).2.1.trans ht')) ((r4.2.2 _).2.2.trans ((f3.2.2 _).2.2.trans b0')) ((r4.2.2 _).2.2.trans ((f3.2.2 _).2.2.trans e2)) (pC_ka (pC_ka p1' f3 (Nat.le_refl _)) r4 (Nat.le_refl _)) r3) (f3.kp.tr r4.kp (Nat.le_refl _)) (pC_le r3)
      · rw [if_neg q, kw_f hn (show 2 ≤ 2 ∧ 2 ≤ 7 by omega) h'.1 q, bf]
        exact ⟨g1, rfl, h'.1, rfl⟩
    · rw [if_neg (show ¬ Int32.ofNat k = 2 from fun z => q (o_inj (j := 2) (by omega) (by omega) z)), if_neg (fun z => q z.2)]
      exact c98 hn hB hL hm h' h3' hk' ht' b0' e2 p1' rfl
theorem c18 {sh : List gb_Sh} {n s l c m : Nat} {B : Nat → Int32} {ord φ0 : Bool} {g : gb_G} (hn : n ≤ 400) (hB : ∀ j, j < n → im 0 255 (B j)) (hL : LN sh) (hm : m < 12) (h : CSt n B ord g s l c φ0) (h3 : g.1 46 3 = Int32.ofNat m) (b0 : g.1 51 (3 * m) = Int32.ofNat c) : KO n B ord g m c φ0 (f_X8_readClause_18 sh g (if ord = true then 0 else 1)) (clO n B ord s l) := by
  unfold f_X8_readClause_18 clO
  rw [wrd_c hn (by split <;> omega) (by split <;> omega) h.1, gb_bd_s]
  cases hf : fW n B s (if ord = true then 0 else 1) with
  | none =>
    simp only []
    rw [if_pos trivial]
    exact ⟨g, rfl, h.1, rfl⟩
  | some k =>
    obtain ⟨k1, k2⟩ := hd_b hf h.1.2.1
    simp only []
    rw [if_neg (fun z => by have := congrArg Int32.toInt z; rw [o_int (by omega), show (-1 : Int32).toInt = -1 from rfl] at this; omega)]
    obtain ⟨o, e, c1⟩ := step_c (sh := sh) hn h.1
    obtain ⟨f1, f2, f3⟩ := stpK h c1 e
    rw [e, gb_bd_s, begC_c hL.2.2.1 hL.2.2.2.1 (f3.2.1.trans h3) hm, gb_bd_s]
    have E : ∀ a i, ¬ (a = 49 ∧ i = m) → ¬ (a = 50 ∧ i = m) → (gb_pi (gb_pi o 49 m (Int32.ofNat k)) 50 m 1).1 a i = o.1 a i := fun a i q1 q2 => (pi_n q2).trans (pi_n q1)
    have e49 : (gb_pi (gb_pi o 49 m (Int32.ofNat k)) 50 m 1).1 49 m = Int32.ofNat k := (pi_n (by omega)).trans pi_e
    have e50 : (gb_pi (gb_pi o 49 m (Int32.ofNat k)) 50 m 1).1 50 m = Int32.ofNat 1 := pi_e
    generalize gb_pi (gb_pi o 49 m (Int32.ofNat k)) 50 m 1 = g1 at E e49 e50
    have hk1 : KP o g1 m c := ⟨fun i _ => ⟨E _ _ (by omega) (by omega), E _ _ (by omega) (by omega)⟩, fun i _ => ⟨E _ _ (by omega) (by omega), E _ _ (by omega) (by omega)⟩, fun i _ => E _ _ (by omega) (by omega)⟩
    have h' : CSt n B ord g1 (tn n B s) l c φ0 := CSt_g f1 fun a i q => E a i (by omega) (by omega)
    have h3' := (E 46 3 (by omega) (by omega)).trans (f3.2.1.trans h3)
    have b0' := (E 51 (3 * m) (by omega) (by omega)).trans ((f2 51 (3 * m) (by omega)).trans b0)
    refine KO_up ?_ (f3.kp.tr hk1 (Nat.le_refl _)) (Nat.le_refl _)
    by_cases q : k = 3
    · subst q
      rw [if_pos (show Int32.ofNat 3 = (3 : Int32) from rfl), if_pos rfl]
      rw [← Bool.or_false φ0] at h'
      exact c59 hn hB hL hm (Nat.le_refl _) h' h3' e49 e50 b0' rfl
    · rw [if_neg (show ¬ Int32.ofNat k = 3 from fun z => q (o_inj (j := 3) (by omega) (by omega) z)), if_neg q]
      have r := rdK hn hB hL (Or.inl rfl) h'
      cases ho : spO n B ord 60 0 0 (tn n B s) l with
      | inl p =>
        rw [ho] at r
        obtain ⟨r, r1, r2, r3⟩ := r
        rw [r1, bf]
        exact ⟨r, rfl, r2, r3⟩
      | inr x =>
        obtain ⟨s', l', D, φ'⟩ := x
        rw [ho] at r
        obtain ⟨r, c', r1, r2, r3, r4⟩ := r
        rw [r1, bt]
        simp only []
        exact KO_up (c59 hn hB hL hm k2 r2 (r4.2.1.trans h3') ((r4.2.2 _).1.trans e49) ((r4.2.2 _).2.1.trans e50) ((r4.2.2 _).2.2.trans b0') r3) r4.kp (pC_le r3)
theorem cl_c {sh : List gb_Sh} {n s l c m : Nat} {B : Nat → Int32} {ord φ0 : Bool} {g : gb_G} (hn : n ≤ 400) (hB : ∀ j, j < n → im 0 255 (B j)) (hL : LN sh) (hm : m < 12) (h : CSt n B ord g s l c φ0) (h3 : g.1 46 3 = Int32.ofNat m) (b0 : g.1 51 (3 * m) = Int32.ofNat c) : KO n B ord g m c φ0 (f_X8_readClause sh g) (clO n B ord s l) := by
  have k := c18 hn hB hL hm h h3 b0
  unfold f_X8_readClause
  rcases ordi h with ⟨o1, o2⟩ | ⟨o1, o2⟩
  · rw [if_pos o1]
    rw [o2] at k ⊢
    exact k
  · rw [if_neg o1]
    rw [o2] at k ⊢
    exact k
/-! the whole TEXT -/
def txO (n : Nat) (B : Nat → Int32) (ord : Bool) : Nat → Nat → Nat → List Cl → Bool → Nat ⊕ (List Cl × Bool)
  | 0, s, _, _, _ => .inl s
  | f + 1, s, l, cs, φ => match clO n B ord s l with
    | .inl p => .inl p
    | .inr (s', l', q, φ') => if isG n B s' 59 then txO n B ord f (tn n B s') l' (cs ++ [q]) (φ || φ') else if s' = n then .inr (cs ++ [q], φ || φ') else .inl s'
/-- the class has read these CLAUSES -/
def CK (n : Nat) (B : Nat → Int32) (ord : Bool) (g : gb_G) (s l c : Nat) (φ : Bool) (cs : List Cl) : Prop := CSt n B ord g s l c φ ∧ g.1 46 3 = Int32.ofNat cs.length ∧ g.1 51 (3 * cs.length) = Int32.ofNat c ∧ ∀ i q, cs[i]? = some q → gC g (nW ord) i c q
theorem gC_kp {g r : gb_G} {nw i m c c' : Nat} {q : Cl} (h : gC g nw i c q) (k : KP g r m c) (hi : i < m) (hc : c ≤ c') : gC r nw i c' q := by
  obtain ⟨h1, h2, a0, a1, a2, a3, h3, b0, b1, b2, b3, p1, p2, p3⟩ := h
  have l1 := pC_le p1
  have l2 := pC_le p2
  have l3 := pC_le p3
  refine ⟨(k.2.1 i hi).1.trans h1, (k.2.1 i hi).2.trans h2, a0, a1, a2, a3, by omega, (k.2.2 _ (by omega)).trans b0, (k.2.2 _ (by omega)).trans b1, (k.2.2 _ (by omega)).trans b2, (k.2.2 _ (by omega)).trans b3, ?_, ?_, ?_⟩
  · exact pC_eq p1 fun j _ hj => k.1 j (by omega)
  · exact pC_eq p2 fun j _ hj => k.1 j (by omega)
  · exact pC_eq p3 fun j _ hj => k.1 j (by omega)
def TO1 (n : Nat) (ord : Bool) (g : gb_G) (R : Option (gb_G × Int32)) : Nat ⊕ (List Cl × Bool) → Prop
  | .inl p => p ≤ n ∧ ∃ r, R = some (r, Int32.ofNat p) ∧ r.1 43 1 = 0 ∧ r.1 51 0 = g.1 51 0
  | .inr (cs, φ) => ∃ r c, R = some (r, -1) ∧ r.1 43 1 = 0 ∧ r.1 51 0 = g.1 51 0 ∧ c ≤ 400 ∧ cs.length ≤ 12 ∧ r.1 46 0 = Int32.ofNat c ∧ r.1 46 3 = Int32.ofNat cs.length ∧ r.1 46 7 = (if φ = true then 1 else 0) ∧ (∀ i q, cs[i]? = some q → gC r (nW ord) i c q) ∧ ∀ q ∈ cs, wfCl ord φ q
theorem gG {g g' : gb_G} {nw i c : Nat} {q : Cl} (h : gC g nw i c q) (e : ∀ a k, 47 ≤ a ∧ a ≤ 51 → g'.1 a k = g.1 a k) : gC g' nw i c q := by
  obtain ⟨h1, h2, a0, a1, a2, a3, h3, b0, b1, b2, b3, p1, p2, p3⟩ := h
  refine ⟨(e _ _ (by omega)).trans h1, (e _ _ (by omega)).trans h2, a0, a1, a2, a3, h3, (e _ _ (by omega)).trans b0, (e _ _ (by omega)).trans b1, (e _ _ (by omega)).trans b2, (e _ _ (by omega)).trans b3, ?_, ?_, ?_⟩
  · exact pC_eq p1 fun j _ _ => ⟨e _ _ (by omega), e _ _ (by omega)⟩
  · exact pC_eq p2 fun j _ _ => ⟨e _ _ (by omega), e _ _ (by omega)⟩
  · exact pC_eq p3 fun j _ _ => ⟨e _ _ (by omega), e _ _ (by omega)⟩
theorem r105 {sh : List gb_Sh} {g : gb_G} {z : Int32} : f_X8_read_105 sh g z = some (gb_pi g 43 1 0, z) := rfl
theorem end_c {sh : List gb_Sh} {n s : Nat} {B : Nat → Int32} {g : gb_G} (hn : n ≤ 400) (h : cS g n B s) : f_X9_ended sh g = some (g, if s = n then 1 else 0) := by
  have := h.2.1
  unfold f_X9_ended
  rw [h.2.2.1, h.1.1]
  by_cases q : s = n
  · subst q
    rw [if_pos rfl]
    split
    · next z => rw [o_lt (by omega) (by omega)] at z; omega
    · rfl
  · rw [if_neg q]
    split
    · rfl
    · next z => rw [o_lt (by omega) (by omega)] at z; omega
theorem tx_c {sh : List gb_Sh} {n : Nat} {B : Nat → Int32} {ord : Bool} (hn : n ≤ 400) (hB : ∀ j, j < n → im 0 255 (B j)) (hL : LN sh) : ∀ (f : Nat) (g : gb_G) (s l c : Nat) (φ : Bool) (cs : List Cl) (F : Nat), cs.length + f = 12 → f < F → CK n B ord g s l c φ cs → (∀ q ∈ cs, wfCl ord φ q) → TO1 n ord g (f_X8_read_31 sh F g 1 1 (Int32.ofNat cs.length)) (txO n B ord f s l cs φ) := by
  intro f
  induction f with
  | zero =>
    intro g s l c φ cs F hf hF h hw
    obtain ⟨F, rfl⟩ : ∃ f, F = f + 1 := ⟨F - 1, by omega⟩
    have e12 : cs.length = 12 := by omega
    rw [txO, f_X8_read_31, if_pos (by rw [e12]; decide)]
    unfold f_X8_read_76
    rw [if_neg (by decide), if_neg (by decide), r105, h.1.1.2.2.1]
    exact ⟨h.1.1.2.1, _, rfl, pi_e, pi_n (by omega)⟩
  | succ f ih =>
    intro g s l c φ cs F hf hF h hw
    obtain ⟨F, rfl⟩ : ∃ f, F = f + 1 := ⟨F - 1, by omega⟩
    obtain ⟨h1, h2, h3, h4⟩ := h
    have k := cl_c (sh := sh) (m := cs.length) hn hB hL (by omega) h1 h2 h3
    have v := clO_v (B := B) (ord := ord) hn h1.1.2.1 h1.2.2.2.2.2.2
    rw [f_X8_read_31, if_neg (by rw [show (12 : Int32) = Int32.ofNat 12 from rfl, o_le (by omega) (by omega)]; omega), if_neg (by decide), if_neg (by decide), txO]
    unfold f_X8_read_69
    obtain ⟨F, rfl⟩ : ∃ f, F = f + 1 := ⟨F - 1, by omega⟩
    cases ho : clO n B ord s l with
    | inl p =>
      rw [ho] at k v
      obtain ⟨r, r1, r2, r3⟩ := k
      rw [r1, bf]
      simp only []
      rw [f_X8_read_31]
      unfold f_X8_read_76
      rw [if_pos rfl, if_pos rfl, ite_self, r105, r2.2.2.1]
      exact ⟨v, _, rfl, pi_e, (pi_n (by omega)).trans r3⟩
    | inr x =>
      obtain ⟨s', l', q, φ'⟩ := x
      rw [ho] at k v
      obtain ⟨r, c', r1, r2, r3, r4, r5, r6, r7⟩ := k
      obtain ⟨v1, v2, v3, v4, v5⟩ := v
      rw [r1, bt]
      simp only []
      have hw' : ∀ x ∈ cs ++ [q], wfCl ord (φ || φ') x := by
        intro x hx
        rw [List.mem_append, List.mem_singleton] at hx
        rcases hx with hx | hx
        · exact wfCl_mo (hw x hx) orl
        · subst hx; exact wfCl_mo v5 orr
      have hg : ∀ i x, (cs ++ [q])[i]? = some x → gC r (nW ord) i c' x := by
        intro i x hx
        by_cases hi : i < cs.length
        · rw [List.getElem?_append_left hi] at hx
          exact gC_kp (h4 i x hx) r7 hi r3
        · rw [List.getElem?_append_right (by omega)] at hx
          have hi2 := nx hx
          rw [List.length_singleton] at hi2
          have ei : i = cs.length := by omega
          subst ei
          rw [Nat.sub_self] at hx
          cases hx
          exact r5
      have hlen : (cs ++ [q]).length = cs.length + 1 := by rw [List.length_append, List.length_singleton]
      by_cases z : isG n B s' 59
      · obtain ⟨o, e1, e2, e3⟩ := rs_t (sh := sh) hn (show ¬ (59 : Int32) = -1 by decide) r2.1 z
        obtain ⟨f1, f2, f3⟩ := stpK r2 e2 e3
        rw [if_pos z, e1, bt, o_succ]
        simp only []
        have key := ih o (tn n B s') l' c' (φ || φ') (cs ++ [q]) (F + 1) (by rw [hlen]; omega) (by omega) ⟨f1, by rw [hlen]; exact f3.2.1.trans r4, by rw [hlen]; exact (f3.2.2 _).2.2.trans r6, fun i x hx => gG (hg i x hx) fun a k hk => f2 a k (by omega)⟩ hw'
        rw [hlen] at key
        have e51 : o.1 51 0 = g.1 51 0 := (f2 51 0 (by omega)).trans (r7.2.2 0 (by omega))
        cases ho2 : txO n B ord f (tn n B s') l' (cs ++ [q]) (φ || φ') with
        | inl p =>
          rw [ho2] at key
          obtain ⟨y1, y, y2, y3, y4⟩ := key
          exact ⟨y1, y, y2, y3, y4.trans e51⟩
        | inr x =>
          rw [ho2] at key
          obtain ⟨xs, xp⟩ := x
          obtain ⟨y, yc, y1, y2, y3, y4⟩ := key
          exact ⟨y, yc, y1, y2, y3.trans e51, y4⟩
      · rw [if_neg z, rs_f hn (by decide) r2.1 z, bf]
        simp only []
        rw [f_X8_read_31]
        unfold f_X8_read_76
        rw [if_neg (show ¬ (1 : Int32) = 0 by decide), if_neg (show ¬ (1 : Int32) = 0 by decide), if_pos (show (0 : Int32) = 0 from rfl), if_pos (show (0 : Int32) = 0 from rfl), ite_self, end_c hn r2.1, gb_bd_s]
        by_cases w : s' = n
        · rw [if_pos w, if_pos w]
          simp only []
          rw [if_neg (show ¬ (1 : Int32) = 0 by decide), r105]
          have hb := r2.2.2.2.2.2.1
          exact ⟨_, c', rfl, pi_e, (pi_n (by omega)).trans (r7.2.2 0 (by omega)), by omega, by rw [hlen]; omega, (pi_n (by omega)).trans r2.2.2.2.1, by rw [hlen]; exact (pi_n (by omega)).trans r4, (pi_n (by omega)).trans r2.2.2.2.2.1, fun i x hx => gG (hg i x hx) fun a k hk => pi_n (by omega), hw'⟩
        · rw [if_neg w, if_neg w]
          simp only []
          rw [if_pos trivial, r105, r2.1.2.2.1]
          exact ⟨v2, _, rfl, pi_e, (pi_n (by omega)).trans (r7.2.2 0 (by omega))⟩
/-- read() -/
theorem read_c {sh : List gb_Sh} {n : Nat} {B : Nat → Int32} {ord : Bool} {g : gb_G} (hn : n ≤ 400) (hB : ∀ j, j < n → im 0 255 (B j)) (hL : LN sh) (h : cvTp g n B) (h51 : g.1 51 0 = 0) : TO1 n ord g (f_X8_read sh g (if ord = true then 1 else 0)) (txO n B ord 12 (skp n B 400 0) 0 [] false) := by
  unfold f_X8_read
  have hx : (if ord = true then (1 : Int32) else 0) = 0 ∨ (if ord = true then (1 : Int32) else 0) = 1 := by cases ord <;> decide
  rw [gb_bo, if_pos hx, gb_let_s, gb_let_s]
  unfold f_X7_clear
  rw [gb_let_s, gb_let_s, gb_let_s, gb_bd_s]
  generalize hg1 : gb_pi (gb_pi (gb_pi (gb_pi (gb_pi g 45 2 (if ord = true then 1 else 0)) 45 3 0) 46 0 0) 46 3 0) 46 7 0 = g1
  have E : ∀ a k, ¬ a = 45 → ¬ a = 46 → g1.1 a k = g.1 a k := by
    intro a k q1 q2
    rw [← hg1, pi_n (by omega), pi_n (by omega), pi_n (by omega), pi_n (by omega), pi_n (by omega)]
  have e2 : g1.1 45 2 = (if ord = true then 1 else 0) := by rw [← hg1, pi_n (by omega), pi_n (by omega), pi_n (by omega), pi_n (by omega), pi_e]
  have e3 : g1.1 45 3 = Int32.ofNat 0 := by rw [← hg1, pi_n (by omega), pi_n (by omega), pi_n (by omega), pi_e]; rfl
  have e4 : g1.1 46 0 = Int32.ofNat 0 := by rw [← hg1, pi_n (by omega), pi_n (by omega), pi_e]; rfl
  have e5 : g1.1 46 3 = Int32.ofNat 0 := by rw [← hg1, pi_n (by omega), pi_e]; rfl
  have e6 : g1.1 46 7 = (if false = true then 1 else 0) := by rw [← hg1, pi_e]; rfl
  obtain ⟨o, e, c⟩ := rew_c (sh := sh) hn (show cvTp g1 n B from ⟨(E _ _ (by omega) (by omega)).trans h.1, fun j hj => (E _ _ (by omega) (by omega)).trans (h.2 j hj)⟩)
  have F := w_X9_rewind e
  have G : ∀ a k, ¬ a = 43 → o.1 a k = g1.1 a k := fun a k q => (F a k (by omega)).1
  rw [e, gb_bd_s]
  have key := tx_c (ord := ord) hn hB hL 12 o (skp n B 400 0) 0 0 false [] gb_N rfl (by decide) ⟨⟨c, (G _ _ (by omega)).trans e2, (G _ _ (by omega)).trans e3, (G _ _ (by omega)).trans e4, (G _ _ (by omega)).trans e6, Nat.zero_le _, Nat.zero_le _⟩, (G _ _ (by omega)).trans e5, (G _ _ (by omega)).trans ((E _ _ (by omega) (by omega)).trans h51), fun i q hq => by cases hq⟩ (fun q hq => by cases hq)
  have e51 : o.1 51 0 = g.1 51 0 := (G _ _ (by omega)).trans (E _ _ (by omega) (by omega))
  have key : TO1 n ord o (f_X8_read_31 sh gb_N o 1 1 0) _ := key
  cases ho2 : txO n B ord 12 (skp n B 400 0) 0 [] false with
  | inl p =>
    rw [ho2] at key
    obtain ⟨y1, y, y2, y3, y4⟩ := key
    exact ⟨y1, y, y2, y3, y4.trans e51⟩
  | inr x =>
    rw [ho2] at key
    obtain ⟨xs, xp⟩ := x
    obtain ⟨y, yc, y1, y2, y3, y4⟩ := key
    exact ⟨y, yc, y1, y2, y3.trans e51, y4⟩
