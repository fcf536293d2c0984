/-! ===== the reference's machine ===== -/
def RC (ord : Bool) (g : gb_G) (O A : Nat → Int32) (a e : Nat) : Prop := if ord = true then g.1 77 20 = 1 ∧ ∀ i, a ≤ i → i < e → g.1 88 i = O i ∧ g.1 89 i = A i else g.1 77 20 = 0 ∧ ∃ L, g.1 77 34 = Int32.ofNat L ∧ L + 900 ≤ 5520 ∧ ∀ i, a ≤ i → i < e → g.1 79 (L + 98 + 2 * i) = O i ∧ g.1 79 (L + 98 + 2 * i + 1) = A i
def RW (ord : Bool) (g : gb_G) (w : Nat → Int32) : Prop := if ord = true then (∀ j, j < 5 → g.2.1 96 (j + 1) = (w j).toInt64) ∧ ∃ N, N ≤ 8 ∧ g.1 79 0 = Int32.ofNat N ∧ ∀ j, j < 8 → (j < N → g.1 79 (8 + j) = w (5 + j) ∧ g.1 79 (24 + j) = w (13 + j)) ∧ (¬ j < N → w (5 + j) = -1 ∧ w (13 + j) = -1) else ∀ j, j < 9 → g.2.1 95 (j + 1) = (w j).toInt64
def frR (g g' : gb_G) (n : Nat) : Prop := (∀ c k, ¬ (c = 77 ∧ k = 38) → g'.1 c k = g.1 c k) ∧ (∀ c k, ¬ c = 97 → g'.2.1 c k = g.2.1 c k) ∧ ∀ k, k < n → g'.2.1 97 k = g.2.1 97 k
theorem frR.rf {g : gb_G} {n : Nat} : frR g g n := ⟨fun _ _ _ => rfl, fun _ _ _ => rfl, fun _ _ => rfl⟩
theorem frR.tr {g g' g'' : gb_G} {h h' : Nat} (a : frR g g' h) (b : frR g' g'' h') (hh : h ≤ h') : frR g g'' h := ⟨fun c k q => (b.1 c k q).trans (a.1 c k q), fun c k q => (b.2.1 c k q).trans (a.2.1 c k q), fun k q => (b.2.2 k (by omega)).trans (a.2.2 k q)⟩
theorem frR.pj {g : gb_G} {n : Nat} {x : Int64} : frR g (gb_pj g 97 n x) n := ⟨fun c k _ => rfl, fun c k q => pj_n (by omega), fun k q => pj_n (by omega)⟩
theorem frR.pi {g : gb_G} {n : Nat} {x : Int32} : frR g (gb_pi g 77 38 x) n := ⟨fun c k q => pi_n q, fun c k q => rfl, fun k q => rfl⟩
theorem RC_fr {ord : Bool} {g g' : gb_G} {O A : Nat → Int32} {a e n : Nat} (h : RC ord g O A a e) (f : frR g g' n) : RC ord g' O A a e := by
  unfold RC at *
  split
  · next q =>
    rw [if_pos q] at h
    exact ⟨(f.1 _ _ (by omega)).trans h.1, fun i hi hj => by rw [f.1 _ _ (by omega), f.1 _ _ (by omega)]; exact h.2 i hi hj⟩
  · next q =>
    rw [if_neg q] at h
    obtain ⟨h1, L, h2, h3, h4⟩ := h
    exact ⟨(f.1 _ _ (by omega)).trans h1, L, (f.1 _ _ (by omega)).trans h2, h3, fun i hi hj => by rw [f.1 _ _ (by omega), f.1 _ _ (by omega)]; exact h4 i hi hj⟩
theorem RC_mo {ord : Bool} {g : gb_G} {O A : Nat → Int32} {a e a' e' : Nat} (h : RC ord g O A a e) (h1 : a ≤ a') (h2 : e' ≤ e) : RC ord g O A a' e' := by
  unfold RC at *
  split
  · next q =>
    rw [if_pos q] at h
    exact ⟨h.1, fun i hi hj => h.2 i (by omega) (by omega)⟩
  · next q =>
    rw [if_neg q] at h
    obtain ⟨h1, L, h2, h3, h4⟩ := h
    exact ⟨h1, L, h2, h3, fun i hi hj => h4 i (by omega) (by omega)⟩
theorem RW_fr {ord : Bool} {g g' : gb_G} {w : Nat → Int32} {n : Nat} (h : RW ord g w) (f : frR g g' n) : RW ord g' w := by
  unfold RW at *
  split
  · next q =>
    rw [if_pos q] at h
    obtain ⟨h1, N, h2, h3, h4⟩ := h
    exact ⟨fun j hj => (f.2.1 _ _ (by omega)).trans (h1 j hj), N, h2, (f.1 _ _ (by omega)).trans h3, fun j hj => by rw [f.1 _ _ (by omega), f.1 _ _ (by omega)]; exact h4 j hj⟩
  · next q =>
    rw [if_neg q] at h
    exact fun j hj => (f.2.1 _ _ (by omega)).trans (h j hj)
def XR (ord : Bool) (O A : Nat → Int32) (nw a e k : Nat) (D : Den) : Prop := ∀ (sh : List gb_Sh) (g : gb_G) (n F E : Nat) (w : Nat → Int32), RC ord g O A a e → RW ord g w → okn nw w → n + k ≤ 400 → e ≤ E → E ≤ 400 → 401 ≤ F + a → g.1 77 38 = 0 →
  (D w = none → ∃ g', f_X11_reckonAll_10 sh F g (Int32.ofNat E) (Int32.ofNat n) (Int32.ofNat a) = some g' ∧ g'.1 77 38 = 1) ∧
  ∀ v, D w = some v → ∃ g' F', 401 ≤ F' + e ∧ frR g g' n ∧ g'.2.1 97 n = v.toInt64 ∧ g'.1 77 38 = 0 ∧ f_X11_reckonAll_10 sh F g (Int32.ofNat E) (Int32.ofNat n) (Int32.ofNat a) = f_X11_reckonAll_10 sh F' g' (Int32.ofNat E) (Int32.ofNat (n + 1)) (Int32.ofNat e)
theorem RC_eq {ord : Bool} {g : gb_G} {O A O' A' : Nat → Int32} {a e : Nat} (h : RC ord g O' A' a e) (q : ∀ i, a ≤ i → i < e → O' i = O i ∧ A' i = A i) : RC ord g O A a e := by
  unfold RC at *
  split
  · next z =>
    rw [if_pos z] at h
    exact ⟨h.1, fun i hi hj => by rw [← (q i hi hj).1, ← (q i hi hj).2]; exact h.2 i hi hj⟩
  · next z =>
    rw [if_neg z] at h
    obtain ⟨h1, L, h2, h3, h4⟩ := h
    exact ⟨h1, L, h2, h3, fun i hi hj => by rw [← (q i hi hj).1, ← (q i hi hj).2]; exact h4 i hi hj⟩
theorem XR.eq {ord : Bool} {O A O' A' : Nat → Int32} {nw a e k : Nat} {D : Den} (h : XR ord O A nw a e k D) (q : ∀ i, a ≤ i → i < e → O' i = O i ∧ A' i = A i) : XR ord O' A' nw a e k D := fun sh g n F E w h1 => h sh g n F E w (RC_eq h1 q)
theorem XR.mo {ord : Bool} {O A : Nat → Int32} {nw a e k k' : Nat} {D : Den} (h : XR ord O A nw a e k D) (q : k ≤ k') : XR ord O A nw a e k' D := fun sh g n F E w h1 h2 h3 h4 => h sh g n F E w h1 h2 h3 (by omega)
/-- a step begins -/
theorem xr_0 {sh : List gb_Sh} {ord : Bool} {g : gb_G} {O A : Nat → Int32} {n f E a e : Nat} (h : RC ord g O A a e) (hae : a < e) (heE : e ≤ E) (hE : E ≤ 400) (hb : g.1 77 38 = 0) : f_X11_reckonAll_10 sh (f + 1) g (Int32.ofNat E) (Int32.ofNat n) (Int32.ofNat a) = f_X11_reckonAll_95 sh (fun w w0 w1 w2 => f_X11_reckonAll_10 sh f w w0 w1 w2) g (Int32.ofNat E) (Int32.ofNat n) (Int32.ofNat a) (O a) (A a) := by
  unfold RC at h
  rw [f_X11_reckonAll_10, if_neg (by rw [o_le (by omega) (by omega)]; omega), if_pos hb]
  unfold f_X11_reckonAll_57
  split at h
  · obtain ⟨h1, h2⟩ := h
    obtain ⟨e1, e2⟩ := h2 a (Nat.le_refl _) hae
    rw [h1, if_neg (by decide), gb_ck_s (o_in (by omega) (by omega)), o_cl (by omega), if_neg (by decide), gb_ck_s (o_in (by omega) (by omega)), e1, e2]
  · obtain ⟨h1, L, h2, h3, h4⟩ := h
    obtain ⟨e1, e2⟩ := h4 a (Nat.le_refl _) hae
    rw [h1, if_pos rfl, h2, show (98 : Int32) = Int32.ofNat 98 from rfl, show (2 : Int32) = Int32.ofNat 2 from rfl, o_add, o_mul, o_add, gb_ck_s (o_in (by omega) (by omega)), o_cl (by omega), if_pos rfl, o_succ, gb_ck_s (o_in (by omega) (by omega)), o_cl (by omega), e1, e2]
/-- BROKEN ends it -/
theorem xr_b {sh : List gb_Sh} {g : gb_G} {f : Nat} {y2 y3 y4 : Int32} (h : g.1 77 38 = 1) : ∃ g', f_X11_reckonAll_10 sh (f + 1) g y2 y3 y4 = some g' ∧ g'.1 77 38 = 1 := by
  have key : ∃ g', f_X11_reckonAll_353 sh g y3 = some g' ∧ g'.1 77 38 = 1 := by
    unfold f_X11_reckonAll_353 f_X11_reckonAll_368
    split
    · exact ⟨_, rfl, h⟩
    · exact ⟨_, rfl, h⟩
  rw [f_X11_reckonAll_10]
  split
  · exact key
  · rw [h, if_neg (by decide)]; exact key
theorem neg1 {h : Nat} : Int32.ofNat (h + 1) + -1 = Int32.ofNat h := by rw [← o_succ, show ((-1 : Int32)) = -(1 : Int32) from rfl, ← Int32.sub_eq_add_neg, Int32.add_sub_cancel]
/-- a leaf -/
theorem xr_leaf {sh : List gb_Sh} {g : gb_G} {n f : Nat} {y2 y4 : Int32} {z : Int64} (hn : n < 400) : f_X11_reckonAll_204 sh (fun w w0 w1 w2 => f_X11_reckonAll_350 sh (fun w w0 w1 w2 => f_X11_reckonAll_10 sh f w w0 w1 w2) w w0 w1 w2) g y2 (Int32.ofNat n) y4 z (Int32.ofNat n) = f_X11_reckonAll_10 sh f (gb_pj g 97 n z) y2 (Int32.ofNat (n + 1)) y4 := by
  unfold f_X11_reckonAll_204 f_X11_reckonAll_350
  rw [gb_ck_s (o_in hn (by omega)), o_cl (by omega), gb_let_s, o_succ]
theorem XR_num {ord : Bool} {O A : Nat → Int32} {nw a : Nat} {v : Int32} (ho : O a = 0) (hA : A a = v) : XR ord O A nw a (a + 1) 1 (fun _ => some v) := by
  intro sh g n F E w h1 h2 h3 h4 h5 h6 h7 h8
  refine ⟨fun z => (nomatch z), fun v' z => ?_⟩
  cases z
  obtain ⟨f, rfl⟩ : ∃ f, F = f + 1 := ⟨F - 1, by omega⟩
  refine ⟨gb_pj g 97 n v.toInt64, f, by omega, frR.pj, pj_e, h8, ?_⟩
  rw [xr_0 h1 (by omega) h5 h6 h8, ho, hA]
  unfold f_X11_reckonAll_95
  rw [if_neg (by decide), if_pos rfl, xr_leaf (by omega), o_succ]
/-- a word of a LAW -/
theorem XR_wordL {O A : Nat → Int32} {nw a j : Nat} (ho : O a = Int32.ofNat (j + 1)) (hj : j < 9) : XR false O A nw a (a + 1) 1 (fun w => some (w j)) := by
  intro sh g n F E w h1 h2 h3 h4 h5 h6 h7 h8
  refine ⟨fun z => (nomatch z), fun v' z => ?_⟩
  cases z
  obtain ⟨f, rfl⟩ : ∃ f, F = f + 1 := ⟨F - 1, by omega⟩
  have h20 : g.1 77 20 = 0 := h1.1
  refine ⟨gb_pj g 97 n (w j).toInt64, f, by omega, frR.pj, pj_e, h8, ?_⟩
  rw [xr_0 h1 (by omega) h5 h6 h8, ho]
  unfold f_X11_reckonAll_95
  rw [if_neg (by rw [show (20 : Int32) = Int32.ofNat 20 from rfl, o_le (by omega) (by omega)]; omega), if_neg (show ¬ Int32.ofNat (j + 1) = 0 from fun z => by have := o_inj (j := 0) (by omega) (by omega) z; omega), if_pos h20, gb_ck_s (o_in (by omega) (by omega)), o_cl (by omega), show g.2.1 95 (j + 1) = (w j).toInt64 from h2 j hj, xr_leaf (by omega), o_succ]
/-- a word of ORDERS -/
theorem XR_wordO {O A : Nat → Int32} {nw a j : Nat} (ho : O a = Int32.ofNat (j + 1)) (hj : j < 5) : XR true O A nw a (a + 1) 1 (fun w => some (w j)) := by
  intro sh g n F E w h1 h2 h3 h4 h5 h6 h7 h8
  refine ⟨fun z => (nomatch z), fun v' z => ?_⟩
  cases z
  obtain ⟨f, rfl⟩ : ∃ f, F = f + 1 := ⟨F - 1, by omega⟩
  have h20 : g.1 77 20 = 1 := h1.1
  refine ⟨gb_pj g 97 n (w j).toInt64, f, by omega, frR.pj, pj_e, h8, ?_⟩
  rw [xr_0 h1 (by omega) h5 h6 h8, ho]
  unfold f_X11_reckonAll_95
  rw [if_neg (by rw [show (20 : Int32) = Int32.ofNat 20 from rfl, o_le (by omega) (by omega)]; omega), if_neg (show ¬ Int32.ofNat (j + 1) = 0 from fun z => by have := o_inj (j := 0) (by omega) (by omega) z; omega), h20, if_neg (by decide), if_neg (by rw [show (6 : Int32) = Int32.ofNat 6 from rfl, o_le (by omega) (by omega)]; omega), gb_ck_s (o_in (by omega) (by omega)), o_cl (by omega), show g.2.1 96 (j + 1) = (w j).toInt64 from h2.1 j hj, xr_leaf (by omega), o_succ]
theorem XR_wordN {O A : Nat → Int32} {nw a j p : Nat} (hp : p ≤ 1) (ho : O a = Int32.ofNat (6 + p)) (hA : A a = Int32.ofNat j) (hj : j < 8) : XR true O A nw a (a + 1) 1 (fun w => some (w (5 + 8 * p + j))) := by
  intro sh g n F E w h1 h2 h3 h4 h5 h6 h7 h8
  refine ⟨fun z => (nomatch z), fun v' z => ?_⟩
  cases z
  obtain ⟨f, rfl⟩ : ∃ f, F = f + 1 := ⟨F - 1, by omega⟩
  have h20 : g.1 77 20 = 1 := h1.1
  obtain ⟨-, N, n1, n2, n3⟩ := h2
  refine ⟨gb_pj g 97 n (w (5 + 8 * p + j)).toInt64, f, by omega, frR.pj, pj_e, h8, ?_⟩
  rw [xr_0 h1 (by omega) h5 h6 h8, ho, hA]
  unfold f_X11_reckonAll_95
  rw [if_neg (by rw [show (20 : Int32) = Int32.ofNat 20 from rfl, o_le (by omega) (by omega)]; omega), if_neg (show ¬ Int32.ofNat (6 + p) = 0 from fun z => by have := o_inj (j := 0) (by omega) (by omega) z; omega), h20, if_neg (by decide), if_pos (by rw [show (6 : Int32) = Int32.ofNat 6 from rfl, o_le (by omega) (by omega)]; omega)]
  obtain ⟨n4, n5⟩ := n3 j hj
  by_cases q : j < N
  · obtain ⟨n6, n7⟩ := n4 q
    rw [isGood_t n1 n2 (by rw [im, o_int (by omega)]; omega), bt]
    simp only []
    by_cases q2 : p = 0
    · subst q2
      rw [if_pos (show Int32.ofNat (6 + 0) = 6 from rfl), show (8 : Int32) = Int32.ofNat 8 from rfl, o_add, gb_ck_s (o_in (by omega) (by omega)), o_cl (by omega), n6, xr_leaf (by omega), o_succ]
    · have q3 : p = 1 := by omega
      subst q3
      rw [if_neg (show ¬ Int32.ofNat (6 + 1) = 6 by decide), show (24 : Int32) = Int32.ofNat 24 from rfl, o_add, gb_ck_s (o_in (by omega) (by omega)), o_cl (by omega), n7, xr_leaf (by omega), o_succ]
  · obtain ⟨n6, n7⟩ := n5 q
    rw [isGood_f n1 n2 (by rw [im, o_int (by omega)]; omega), bf]
    simp only []
    have e : w (5 + 8 * p + j) = -1 := by
      by_cases q2 : p = 0
      · subst q2; exact n6
      · have q3 : p = 1 := by omega
        subst q3; exact n7
    rw [xr_leaf (by omega), o_succ, e]
    rfl
