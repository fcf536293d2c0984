/-! ===== TESTS: what they tell; the class reads so ===== -/
def nts (n : Nat) (B : Nat → Int32) : Nat → Nat → Nat × Nat
  | 0, s => (s, 0)
  | f + 1, s => if isK n B s 7 then ((nts n B f (tn n B s)).1, (nts n B f (tn n B s)).2 + 1) else (s, 0)
def Dk : Nat → Den → Den
  | 0, D => D
  | k + 1, D => Dn (Dk k D)
theorem Dn2 (D : Den) : Dn (Dn D) = D := by
  funext w
  unfold Dn
  cases h : D w with
  | none => rfl
  | some x =>
    show some (1 - (1 - x)) = some x
    rw [Int32.sub_eq_add_neg 1 (1 - x), Int32.neg_sub, Int32.add_comm, Int32.sub_add_cancel]
theorem Dk_p : ∀ (k : Nat) (D : Den), Dk k D = if k % 2 = 1 then Dn D else D := by
  intro k
  induction k with
  | zero => intro D; rfl
  | succ k ih =>
    intro D
    rw [Dk, ih]
    by_cases q : k % 2 = 1
    · rw [if_pos q, if_neg (by omega), Dn2]
    · rw [if_neg q, if_pos (by omega)]
def plainO (n : Nat) (B : Nat → Int32) (sO tO : Nat → Nat → Ou) (d s l : Nat) : Ou :=
  if isG n B (nts n B 400 s).1 40 then (if 8 ≤ d then .inl (nts n B 400 s).1 else match tO (tn n B (nts n B 400 s).1) l with
    | .inl p => .inl p
    | .inr (s', l', D, φ) => if isG n B s' 41 then .inr (tn n B s', l', Dk (nts n B 400 s).2 D, φ) else .inl s')
  else match sO (nts n B 400 s).1 l with
    | .inl p => .inl p
    | .inr (s', l', D, φ) => match sx n B s' 8 with
      | none => .inl s'
      | some j => match sO (tn n B s') l' with
        | .inl p => .inl p
        | .inr (s'', l'', D', φ') => .inr (s'', l'', Dk (nts n B 400 s).2 (Db (5 + j) D D'), φ || φ')
def andL (n : Nat) (B : Nat → Int32) (s1 : Nat) (cv : Int32) (pO : Nat → Nat → Ou) : Nat → Nat → Nat → Den → Bool → Ou
  | 0, s, l, D, φ => .inr (s, l, D, φ)
  | f + 1, s, l, D, φ => if isK n B s s1 then (match pO (tn n B s) l with
      | .inl p => .inl p
      | .inr (s', l', D', φ') => andL n B s1 cv pO f s' l' (Do cv D D') (φ || φ')) else .inr (s, l, D, φ)
def andO (n : Nat) (B : Nat → Int32) (s1 : Nat) (cv : Int32) (pO : Nat → Nat → Ou) (s l : Nat) : Ou := match pO s l with
  | .inl p => .inl p
  | .inr (s', l', D, φ) => andL n B s1 cv pO 400 s' l' D φ
theorem isK_n {n s s1 : Nat} {B : Nat → Int32} (hs1 : 2 ≤ s1 ∧ s1 ≤ 7) (hs : s ≤ n) (h : isK n B s s1) : s < n := by
  have : 0 < ((wds s1).getD 0 []).length := by
    have : ∀ k : Fin 8, 2 ≤ k.val → 0 < ((wds k.val).getD 0 []).length := by decide
    exact this ⟨s1, by omega⟩ hs1.1
  exact (wqn hs this h).1
theorem nts_b {n : Nat} {B : Nat → Int32} : ∀ f s, s ≤ n → s ≤ (nts n B f s).1 ∧ (nts n B f s).1 ≤ n ∧ s + (nts n B f s).2 ≤ (nts n B f s).1 ∧ (n ≤ s + f → ¬ isK n B (nts n B f s).1 7) := by
  intro f
  induction f with
  | zero => intro s hs; exact ⟨Nat.le_refl _, hs, Nat.le_refl _, fun z y => by have := isK_n (by omega) hs y; omega⟩
  | succ f ih =>
    intro s hs
    rw [nts]
    by_cases q : isK n B s 7
    · have h1 := isK_n (by omega) hs q
      have h2 := tn_b (B := B) hs
      have h3 := ih (tn n B s) h2.2.1
      rw [if_pos q]
      refine ⟨by show s ≤ (nts n B f (tn n B s)).1; omega, h3.2.1, by show s + ((nts n B f (tn n B s)).2 + 1) ≤ (nts n B f (tn n B s)).1; omega, fun z => h3.2.2.2 (by omega)⟩
    · rw [if_neg q]
      exact ⟨Nat.le_refl _, hs, Nat.le_refl _, fun _ => q⟩
/-- the end of a PLAIN test -/
theorem p155_t {sh : List gb_Sh} {n s0 l0 c0 s l c s1 : Nat} {B : Nat → Int32} {ord φ0 φ b : Bool} {RS RT : gb_G → Int32 → Option (gb_G × Int32)} {g0 g : gb_G} {D : Den} (hn : n ≤ 400) (hl1 : gb_ln sh 47 = 400) (hl2 : gb_ln sh 48 = 400) (hI : CI n B ord g0 s1 l0 c0 φ0 g s l c D φ) (hl : l0 < l) (h01 : s0 + (if b = true then 1 else 0) ≤ s1) (hc0 : c0 ≤ s0) : CO1 n B ord g0 s0 l0 c0 φ0 (f_X8_readPlain_155 sh RS RT g (if b = true then 1 else 0) 1) (.inr (s, l, (if b = true then Dn D else D), φ)) := by
  obtain ⟨hC, i2, i3, i4, i5, i6⟩ := hI
  obtain ⟨a1, a2, a3, a4, a5, a6, a7⟩ := hC
  have hsn := a1.2.1
  unfold f_X8_readPlain_155
  cases b with
  | false =>
    rw [if_neg (show ¬ false = true by decide), if_pos rfl, gb_bo_s (Or.inr rfl), if_neg (show ¬ false = true by decide)]
    rw [if_neg (show ¬ false = true by decide)] at h01
    exact ⟨g, c, rfl, ⟨a1, a2, a3, a4, a5, a6, a7⟩, i2, by omega, i4, i5, i6⟩
  | true =>
    rw [if_pos rfl] at h01
    obtain ⟨o, q1, q2, q3, q4, q5⟩ := emit_c (sh := sh) (g := g) (x := 2) (y := 0) hl1 hl2 a4 (by omega)
    rw [if_pos rfl, if_neg (by decide), q1, gb_bd_s, gb_bo_s (Or.inr rfl), if_pos rfl]
    refine ⟨o, c + 1, rfl, ⟨cS_fr a1 fun a k z => q5 a k (by omega) (by omega) (by omega), (q5 _ _ (by omega) (by omega) (by omega)).trans a2, (q5 _ _ (by omega) (by omega) (by omega)).trans a3, q2, (q5 _ _ (by omega) (by omega) (by omega)).trans a5, by omega, a7⟩, by omega, by omega, fun i hi => ?_, XC_not (i5.eq fun i hi hj => ?_) (by rw [q3, upe]) (by omega) (by omega), ?_, fun k => ?_⟩
    · rw [q3, q4, upn (by omega), upn (by omega)]; exact i4 i hi
    · rw [q3, q4, upn (by omega), upn (by omega)]; exact ⟨rfl, rfl⟩
    · rw [q5 _ _ (by omega) (by omega) (by omega)]; exact i6.1
    · rw [q5 _ _ (by omega) (by omega) (by omega)]; exact i6.2 k
theorem p155_f {sh : List gb_Sh} {n s0 l0 c0 c p : Nat} {B : Nat → Int32} {ord φ0 b : Bool} {RS RT : gb_G → Int32 → Option (gb_G × Int32)} {g0 g : gb_G} (hl1 : gb_ln sh 47 = 400) (hl2 : gb_ln sh 48 = 400) (h1 : cS g n B p) (h2 : g.1 46 0 = Int32.ofNat c) (h3 : c ≤ 400) : CO1 n B ord g0 s0 l0 c0 φ0 (f_X8_readPlain_155 sh RS RT g (if b = true then 1 else 0) 0) (.inl p) := by
  unfold f_X8_readPlain_155
  cases b with
  | false =>
    rw [if_neg (show ¬ false = true by decide), if_pos rfl, gb_bo_s (Or.inl rfl)]
    exact ⟨g, c, rfl, h1, h2, h3⟩
  | true =>
    obtain ⟨o, c', q1, q2, q3, q4⟩ := emit_ct (sh := sh) (x := 2) (y := 0) hl1 hl2 h2 h3
    rw [if_pos rfl, if_neg (by decide), q1, gb_bd_s, gb_bo_s (Or.inl rfl)]
    exact ⟨o, c', rfl, cS_fr h1 fun a k z => q4 a k (by omega) (by omega) (by omega), q2, q3⟩
/-- behind the "not"s -/
theorem p36_c {sh : List gb_Sh} {n d s0 l c s1 k : Nat} {B : Nat → Int32} {ord φ0 : Bool} {RS RT : gb_G → Int32 → Option (gb_G × Int32)} {sO tO : Nat → Nat → Ou} {g0 g : gb_G} (hn : n ≤ 400) (hB : ∀ j, j < n → im 0 255 (B j)) (hl1 : gb_ln sh 47 = 400) (hl2 : gb_ln sh 48 = 400) (hd : d ≤ 8) (hR : ∀ s l, CO n B ord RS s l d (sO s l)) (hV : ∀ s l, s ≤ n → l ≤ 50 → VO n ord s l (sO s l)) (hT : d < 8 → ∀ s l, CO n B ord RT s l (d + 1) (tO s l)) (hVT : d < 8 → ∀ s l, s ≤ n → l ≤ 50 → VO n ord s l (tO s l)) (hC : CSt n B ord g s1 l c φ0) (e : ∀ a k, ¬ a = 43 → g.1 a k = g0.1 a k) (h01 : s0 + k ≤ s1) (hc0 : c ≤ s0) : CO1 n B ord g0 s0 l c φ0 (f_X8_readPlain_36 sh RS RT g (Int32.ofNat d) (if decide (k % 2 = 1) = true then 1 else 0)) (if isG n B s1 40 then (if 8 ≤ d then .inl s1 else match tO (tn n B s1) l with
    | .inl p => .inl p
    | .inr (s', l', D, φ) => if isG n B s' 41 then .inr (tn n B s', l', Dk k D, φ) else .inl s')
  else match sO s1 l with
    | .inl p => .inl p
    | .inr (s', l', D, φ) => match sx n B s' 8 with
      | none => .inl s'
      | some j => match sO (tn n B s') l' with
        | .inl p => .inl p
        | .inr (s'', l'', D', φ') => .inr (s'', l'', Dk k (Db (5 + j) D D'), φ || φ')) := by
  have hsn := hC.1.2.1
  have ht := tn_b (B := B) hsn
  have hl50 := hC.2.2.2.2.2.2
  have c46 := hC.2.2.2.1
  have hb : s0 + (if decide (k % 2 = 1) = true then 1 else 0) ≤ s1 := by
    by_cases q : k % 2 = 1
    · rw [decide_eq_true q, if_pos rfl]; omega
    · rw [decide_eq_false q, if_neg (by decide)]; omega
  have hDk : ∀ D : Den, Dk k D = if decide (k % 2 = 1) = true then Dn D else D := by
    intro D
    rw [Dk_p]
    by_cases q : k % 2 = 1
    · rw [if_pos q, decide_eq_true q, if_pos rfl]
    · rw [if_neg q, decide_eq_false q, if_neg (by decide)]
  have low : ∀ {r : gb_G} {c' : Nat}, lowC g r c' → lowC g0 r c' := fun h i hi => by rw [(h i hi).1, (h i hi).2, e 47 i (by omega), e 48 i (by omega)]; exact ⟨rfl, rfl⟩
  have kk : ∀ {r : gb_G}, KC g r → KC g0 r := fun h => ⟨h.1.trans (e _ _ (by omega)), fun k => (h.2 k).trans (e _ _ (by omega))⟩
  unfold f_X8_readPlain_36 f_X8_readPlain_87 f_X8_readPlain_123
  rw [sg_c hn hC.1 (by decide)]
  by_cases q : isG n B s1 40
  · rw [if_pos q, if_pos q, bt]
    simp only []
    by_cases q8 : 8 ≤ d
    · rw [if_pos q8, if_pos (by rw [show (8 : Int32) = Int32.ofNat 8 from rfl, o_le (by omega) (by omega)]; exact q8)]
      exact p155_f hl1 hl2 hC.1 c46 (by omega)
    · rw [if_neg q8, if_neg (by rw [show (8 : Int32) = Int32.ofNat 8 from rfl, o_le (by omega) (by omega)]; exact q8)]
      obtain ⟨g1, e1, p1, e1'⟩ := rs_t (sh := sh) hn (show ¬ (40 : Int32) = -1 by decide) hC.1 q
      have F1 := w_X9_step e1'
      have hC1 : CSt n B ord g1 (tn n B s1) l c φ0 := CSt_fr hC p1 ht.1 fun a k q => (F1 a k (by omega)).1
      have r := hT (by omega) (tn n B s1) l g1 c φ0 hC1
      have v := hVT (by omega) (tn n B s1) l ht.2.1 hl50
      rw [e1, bt]
      simp only []
      rw [o_succ]
      cases ho : tO (tn n B s1) l with
      | inl p =>
        rw [ho] at r
        obtain ⟨r1, c', r2, r3, r4, r5⟩ := r
        rw [r2, bf]
        exact p155_f hl1 hl2 r3 r4 r5
      | inr x =>
        obtain ⟨s', l', D', φ'⟩ := x
        rw [ho] at r v
        obtain ⟨r1, c', r2, r3, r4, r5, r6, r7, r8⟩ := r
        obtain ⟨v1, v2, v3, v4, v5, v6⟩ := v
        have ht' := tn_b (B := B) r3.1.2.1
        have hc' := r3.2.2.2.2.2.1
        rw [r2, bt]
        simp only []
        by_cases z : isG n B s' 41
        · obtain ⟨g2, e2, p2, e2'⟩ := rs_t (sh := sh) hn (show ¬ (41 : Int32) = -1 by decide) r3.1 z
          have F2 := w_X9_step e2'
          rw [e2, bt, if_pos z, hDk]
          refine p155_t (s1 := s1) hn hl1 hl2 ⟨CSt_fr r3 p2 ht'.1 fun a k q => (F2 a k (by omega)).1, r4, by omega, low fun i hi => ?_, r7.eq fun i _ _ => ?_, kk ⟨?_, fun k => ?_⟩⟩ v3 hb hc0
          · rw [(F2 47 i (by omega)).1, (F2 48 i (by omega)).1, (r6 i hi).1, (r6 i hi).2, (F1 47 i (by omega)).1, (F1 48 i (by omega)).1]; exact ⟨rfl, rfl⟩
          · rw [(F2 47 i (by omega)).1, (F2 48 i (by omega)).1]; exact ⟨rfl, rfl⟩
          · rw [(F2 46 3 (by omega)).1, r8.1, (F1 46 3 (by omega)).1]
          · rw [(F2 50 k (by omega)).1, r8.2, (F1 50 k (by omega)).1]
        · rw [rs_f hn (by decide) r3.1 z, bf, if_neg z]
          exact p155_f hl1 hl2 r3.1 r3.2.2.2.1 (by have := r3.1.2.1; omega)
  · rw [if_neg q, if_neg q, bf]
    simp only []
    have r := hR s1 l g c φ0 hC
    have v := hV s1 l hsn hl50
    cases ho : sO s1 l with
    | inl p =>
      rw [ho] at r
      obtain ⟨r1, c', r2, r3, r4, r5⟩ := r
      rw [r2, gb_bd_s]
      simp only []
      rw [sI_c hn hB (by omega) r3, gb_bd_s, if_pos trivial, if_pos trivial]
      exact p155_f hl1 hl2 r3 r4 r5
    | inr x =>
      obtain ⟨s', l', D', φ'⟩ := x
      rw [ho] at r v
      obtain ⟨r1, c', r2, r3, r4, r5, r6, r7, r8⟩ := r
      obtain ⟨v1, v2, v3, v4, v5, v6⟩ := v
      have ht' := tn_b (B := B) v2
      rw [r2, gb_bd_s]
      simp only []
      rw [sI_c hn hB (by omega) r3.1, gb_bd_s, if_neg (show ¬ (1 : Int32) = 0 by decide)]
      cases hx : sx n B s' 8 with
      | none =>
        simp only []
        rw [if_pos trivial, if_pos trivial]
        exact p155_f hl1 hl2 r3.1 r3.2.2.2.1 (by have := r3.2.2.2.2.2.1; omega)
      | some j =>
        simp only []
        obtain ⟨j1, j2, -⟩ := sx_b hx
        have j3 : j < 3 := j2
        obtain ⟨g1, e1, p1⟩ := step_c (sh := sh) hn r3.1
        have F1 := w_X9_step e1
        have hC1 : CSt n B ord g1 (tn n B s') l' c' (φ0 || φ') := CSt_fr r3 p1 ht'.1 fun a k q => (F1 a k (by omega)).1
        have r' := hR (tn n B s') l' g1 c' (φ0 || φ') hC1
        have v' := hV (tn n B s') l' ht'.2.1 v4
        rw [if_neg (o_ne1 (by omega)), if_neg (show ¬ (1 : Int32) = 0 by decide), e1, gb_bd_s, show (10 : Int32) = Int32.ofNat 10 from rfl, o_add]
        cases ho' : sO (tn n B s') l' with
        | inl p =>
          rw [ho'] at r'
          obtain ⟨r1', c'', r2', r3', r4', r5'⟩ := r'
          obtain ⟨o, c3, q1, q2, q3, q4⟩ := emit_ct (sh := sh) (x := Int32.ofNat (10 + j)) (y := 0) hl1 hl2 r4' r5'
          rw [r2', gb_bd_s]
          simp only []
          rw [q1, gb_bd_s]
          exact p155_f hl1 hl2 (cS_fr r3' fun a k z => q4 a k (by omega) (by omega) (by omega)) q2 q3
        | inr x' =>
          obtain ⟨s'', l'', D'', φ''⟩ := x'
          rw [ho'] at r' v'
          obtain ⟨r1', c'', r2', r3', r4', r5', r6', r7', r8'⟩ := r'
          obtain ⟨v1', v2', v3', v4', v5', v6'⟩ := v'
          obtain ⟨a1, a2, a3, a4, a5, a6, a7⟩ := r3'
          have hc6 := r3.2.2.2.2.2.1
          obtain ⟨o, q1, q2, q3, q4, q5⟩ := emit_c (sh := sh) (g := r1') (x := Int32.ofNat (10 + j)) (y := 0) hl1 hl2 a4 (by omega)
          rw [r2', gb_bd_s]
          simp only []
          rw [q1, gb_bd_s, hDk]
          refine p155_t (s1 := s1) (c := c'' + 1) hn hl1 hl2 ⟨⟨cS_fr a1 fun a k z => q5 a k (by omega) (by omega) (by omega), (q5 _ _ (by omega) (by omega) (by omega)).trans a2, (q5 _ _ (by omega) (by omega) (by omega)).trans a3, q2, ?_, by omega, a7⟩, by omega, by omega, low fun i hi => ?_, ?_, kk ⟨?_, fun k => ?_⟩⟩ (by omega) hb hc0
          · rw [q5 _ _ (by omega) (by omega) (by omega), a5, Bool.or_assoc]
          · rw [q3, q4, upn (by omega), upn (by omega), (r6' i (by omega)).1, (r6' i (by omega)).2, (F1 47 i (by omega)).1, (F1 48 i (by omega)).1]
            exact r6 i hi
          · rw [show l'' - l = (l' - l) + (l'' - l') by omega]
            refine XC_bin (m := c') (r7.eq fun i hi hj => ?_) (r7'.eq fun i hi hj => ?_) v5 v5' ?_ (by omega) (by omega) (by omega) (by omega) (by omega)
            · rw [q3, q4, upn (by omega), upn (by omega), (r6' i (by omega)).1, (r6' i (by omega)).2, (F1 47 i (by omega)).1, (F1 48 i (by omega)).1]
              exact ⟨rfl, rfl⟩
            · rw [q3, q4, upn (by omega), upn (by omega)]; exact ⟨rfl, rfl⟩
            · rw [q3, upe, show 10 + j = 5 + (5 + j) by omega]
          · rw [q5 _ _ (by omega) (by omega) (by omega), r8'.1, (F1 46 3 (by omega)).1]; exact r8.1
          · rw [q5 _ _ (by omega) (by omega) (by omega), r8'.2, (F1 50 k (by omega)).1]; exact r8.2 k
theorem p4_c {sh : List gb_Sh} {n d s0 l c : Nat} {B : Nat → Int32} {ord φ0 : Bool} {RS RT : gb_G → Int32 → Option (gb_G × Int32)} {sO tO : Nat → Nat → Ou} {g0 : gb_G} (hn : n ≤ 400) (hB : ∀ j, j < n → im 0 255 (B j)) (hl1 : gb_ln sh 47 = 400) (hl2 : gb_ln sh 48 = 400) (hd : d ≤ 8) (hR : ∀ s l, CO n B ord RS s l d (sO s l)) (hV : ∀ s l, s ≤ n → l ≤ 50 → VO n ord s l (sO s l)) (hT : d < 8 → ∀ s l, CO n B ord RT s l (d + 1) (tO s l)) (hVT : d < 8 → ∀ s l, s ≤ n → l ≤ 50 → VO n ord s l (tO s l)) (hc0 : c ≤ s0) : ∀ (f s k F : Nat) (g : gb_G), n ≤ s + f → CSt n B ord g s l c φ0 → (∀ a k, ¬ a = 43 → g.1 a k = g0.1 a k) → s0 + k ≤ s → f + 1 ≤ F → CO1 n B ord g0 s0 l c φ0 (f_X8_readPlain_4 sh RS RT F g (Int32.ofNat d) (if decide (k % 2 = 1) = true then 1 else 0) (Int32.ofNat k)) (if isG n B (nts n B f s).1 40 then (if 8 ≤ d then .inl (nts n B f s).1 else match tO (tn n B (nts n B f s).1) l with
    | .inl p => .inl p
    | .inr (s', l', D, φ) => if isG n B s' 41 then .inr (tn n B s', l', Dk ((nts n B f s).2 + k) D, φ) else .inl s')
  else match sO (nts n B f s).1 l with
    | .inl p => .inl p
    | .inr (s', l', D, φ) => match sx n B s' 8 with
      | none => .inl s'
      | some j => match sO (tn n B s') l' with
        | .inl p => .inl p
        | .inr (s'', l'', D', φ') => .inr (s'', l'', Dk ((nts n B f s).2 + k) (Db (5 + j) D D'), φ || φ')) := by
  intro f
  induction f with
  | zero =>
    intro s k F g hf hC e h01 hF
    have hsn := hC.1.2.1
    obtain ⟨F', rfl⟩ : ∃ F', F = F' + 1 := ⟨F - 1, by omega⟩
    have nk : ¬ isK n B s 7 := fun z => by have := isK_n (by omega) hsn z; omega
    rw [f_X8_readPlain_4, kw_f hn (by omega) hC.1 nk, bf, nts]
    simp only [Nat.zero_add]
    split
    · exact p36_c hn hB hl1 hl2 hd hR hV hT hVT hC e h01 hc0
    · exact p36_c hn hB hl1 hl2 hd hR hV hT hVT hC e h01 hc0
  | succ f ih =>
    intro s k F g hf hC e h01 hF
    have hsn := hC.1.2.1
    obtain ⟨F', rfl⟩ : ∃ F', F = F' + 1 := ⟨F - 1, by omega⟩
    rw [nts]
    by_cases q : isK n B s 7
    · have hlt := isK_n (by omega) hsn q
      have ht := tn_b (B := B) hsn
      obtain ⟨g1, e1, p1, e1'⟩ := kw_t (sh := sh) hn (show 2 ≤ 7 ∧ 7 ≤ 7 by omega) hC.1 q
      have F1 := w_X9_step e1'
      have r := ih (tn n B s) (k + 1) F' g1 (by omega) (CSt_fr hC p1 ht.1 fun a k q => (F1 a k (by omega)).1) (fun a k q => (F1 a k (by omega)).1.trans (e a k q)) (by omega) (by omega)
      rw [if_pos q, f_X8_readPlain_4, if_neg (by rw [show (400 : Int32) = Int32.ofNat 400 from rfl, o_le (by omega) (by omega)]; omega), e1, bt]
      unfold f_X8_readPlain_29
      simp only []
      rw [show (nts n B f (tn n B s)).2 + 1 + k = (nts n B f (tn n B s)).2 + (k + 1) by omega, o_succ]
      by_cases z : k % 2 = 1
      · rw [decide_eq_true z, if_pos rfl, if_neg (show ¬ (1 : Int32) = 0 by decide)]
        rw [decide_eq_false (show ¬ (k + 1) % 2 = 1 by omega), if_neg (by decide)] at r
        exact r
      · rw [decide_eq_false z, if_neg (show ¬ false = true by decide), if_pos rfl]
        rw [decide_eq_true (show (k + 1) % 2 = 1 by omega), if_pos rfl] at r
        exact r
    · rw [if_neg q, f_X8_readPlain_4, kw_f hn (by omega) hC.1 q, bf]
      simp only [Nat.zero_add]
      split
      · exact p36_c hn hB hl1 hl2 hd hR hV hT hVT hC e h01 hc0
      · exact p36_c hn hB hl1 hl2 hd hR hV hT hVT hC e h01 hc0
/-- a PLAIN test -/
theorem plain_c {sh : List gb_Sh} {n d : Nat} {B : Nat → Int32} {ord : Bool} {RS RT : gb_G → Int32 → Option (gb_G × Int32)} {sO tO : Nat → Nat → Ou} (hn : n ≤ 400) (hB : ∀ j, j < n → im 0 255 (B j)) (hl1 : gb_ln sh 47 = 400) (hl2 : gb_ln sh 48 = 400) (hd : d ≤ 8) (hR : ∀ s l, CO n B ord RS s l d (sO s l)) (hV : ∀ s l, s ≤ n → l ≤ 50 → VO n ord s l (sO s l)) (hT : d < 8 → ∀ s l, CO n B ord RT s l (d + 1) (tO s l)) (hVT : d < 8 → ∀ s l, s ≤ n → l ≤ 50 → VO n ord s l (tO s l)) (s l : Nat) : CO n B ord (fun g x => f_X8_readPlain sh RS RT g x) s l d (plainO n B sO tO d s l) := by
  intro g c φ0 hC
  exact p4_c (g0 := g) (s0 := s) hn hB hl1 hl2 hd hR hV hT hVT hC.2.2.2.2.2.1 400 s 0 gb_N g (by omega) hC (fun _ _ _ => rfl) (by omega) (by rw [show gb_N = 1000000 from rfl]; omega)
theorem aim_c {sh : List gb_Sh} {g : gb_G} {c : Nat} (hl2 : gb_ln sh 48 = 400) (hc : c < 400) : f_X7_aimHere sh g 46 (Int32.ofNat c) = some (gb_pi g 48 c (g.1 46 0)) := by
  unfold f_X7_aimHere
  rw [show (46 : Nat) + 2 = 48 from rfl, hl2, within_t (lo := 0) (hi := 399) (by rw [im, o_int (by omega)]; omega) rfl rfl, bt]
  simp only []
  rw [gb_ck_s (o_in hc (by omega)), o_cl (by omega), gb_let_s]
theorem andc {sh : List gb_Sh} {n s1 op d : Nat} {cv : Int32} {B : Nat → Int32} {ord : Bool} {R : gb_G → Int32 → Option (gb_G × Int32)} {pO : Nat → Nat → Ou} (L : Nat → gb_G → Int32 → Int32 → Int32 → Option (gb_G × Int32)) (hn : n ≤ 400) (hl1 : gb_ln sh 47 = 400) (hl2 : gb_ln sh 48 = 400) (hs1 : 2 ≤ s1 ∧ s1 ≤ 7) (hop : (Int32.ofNat op = 3 ∧ cv = 1) ∨ (Int32.ofNat op = 4 ∧ cv = 0))
    (hL : ∀ f g y1 y2 y3, L (f + 1) g y1 y2 y3 = if 400 ≤ y3 then (gb_bo y2 (some (g, y2))) else (if y2 = 0 then (gb_bo y2 (some (g, y2))) else (gb_bd (f_X8_readKeyword sh g s1) (fun r5 => if r5.2 = 0 then (gb_bo y2 (some (r5.1, y2))) else (gb_bd (f_X7_emit sh r5.1 46 (Int32.ofNat op) 0) (fun r8 => gb_bd (R r8.1 y1) (fun r10 => gb_bd (f_X7_aimHere sh r10.1 46 r8.2) (fun r12 => L f r12 y1 r10.2 (y3 + 1)))))))))
    (hR : ∀ s l, CO n B ord R s l d (pO s l)) (hV : ∀ s l, s ≤ n → l ≤ 50 → VO n ord s l (pO s l)) {g0 : gb_G} {s0 l0 c0 : Nat} {φ0 : Bool} : ∀ (f s l : Nat) (D : Den) (φ : Bool) (g : gb_G) (c y3 F : Nat), n ≤ s + f → CI n B ord g0 s0 l0 c0 φ0 g s l c D φ → l0 < l → s0 < s → y3 ≤ s → f + 1 ≤ F → CO1 n B ord g0 s0 l0 c0 φ0 (L F g (Int32.ofNat d) 1 (Int32.ofNat y3)) (andL n B s1 cv pO f s l D φ) := by
  have fin : ∀ (F : Nat) (g : gb_G) (y1 y3 : Int32), L (F + 1) g y1 0 y3 = some (g, 0) := by
    intro F g y1 y3
    rw [hL, gb_bo_s (Or.inl rfl), if_pos rfl]
    split <;> rfl
  have fin1 : ∀ (F : Nat) (g : gb_G) (y1 y3 : Int32) (s : Nat), cS g n B s → ¬ isK n B s s1 → L (F + 1) g y1 1 y3 = some (g, 1) := by
    intro F g y1 y3 s h1 h2
    rw [hL, gb_bo_s (Or.inr rfl), if_neg (show ¬ (1 : Int32) = 0 by decide), kw_f hn hs1 h1 h2, bf]
    simp only []
    rw [gb_bo_s (Or.inr rfl)]
    split <;> rfl
  intro f
  induction f with
  | zero =>
    intro s l D φ g c y3 F hf hI hl hs hy hF
    have hsn := hI.1.1.2.1
    obtain ⟨F', rfl⟩ : ∃ F', F = F' + 1 := ⟨F - 1, by omega⟩
    rw [andL, fin1 _ _ _ _ s hI.1.1 (fun z => by have := isK_n hs1 hsn z; omega)]
    exact ⟨g, c, rfl, hI⟩
  | succ f ih =>
    intro s l D φ g c y3 F hf hI hl hs hy hF
    obtain ⟨hC, i2, i3, i4, i5, i6⟩ := hI
    have hsn := hC.1.2.1
    obtain ⟨F', rfl⟩ : ∃ F', F = F' + 1 := ⟨F - 1, by omega⟩
    rw [andL]
    by_cases q : isK n B s s1
    · have hlt := isK_n hs1 hsn q
      have ht := tn_b (B := B) hsn
      obtain ⟨b1, b2, b3, b4, b5, b6, b7⟩ := hC
      obtain ⟨g1, e1, p1, e1'⟩ := kw_t (sh := sh) hn hs1 b1 q
      have F1 := w_X9_step e1'
      obtain ⟨g2, u1, u2, u3, u4, u5⟩ := emit_c (sh := sh) (g := g1) (x := Int32.ofNat op) (y := 0) hl1 hl2 ((F1 46 0 (by omega)).1.trans b4) (by omega)
      have hC2 : CSt n B ord g2 (tn n B s) l (c + 1) (φ0 || φ) := ⟨cS_fr p1 fun a k z => u5 a k (by omega) (by omega) (by omega), (u5 _ _ (by omega) (by omega) (by omega)).trans ((F1 _ _ (by omega)).1.trans b2), (u5 _ _ (by omega) (by omega) (by omega)).trans ((F1 _ _ (by omega)).1.trans b3), u2, (u5 _ _ (by omega) (by omega) (by omega)).trans ((F1 _ _ (by omega)).1.trans b5), by omega, b7⟩
      have r := hR (tn n B s) l g2 (c + 1) (φ0 || φ) hC2
      have v := hV (tn n B s) l ht.2.1 b7
      rw [if_pos q, hL, if_neg (by rw [show (400 : Int32) = Int32.ofNat 400 from rfl, o_le (by omega) (by omega)]; omega), if_neg (show ¬ (1 : Int32) = 0 by decide), e1, bt]
      simp only []
      rw [u1, gb_bd_s]
      simp only []
      cases ho : pO (tn n B s) l with
      | inl p =>
        rw [ho] at r
        obtain ⟨r1, c', r2, r3, r4, r5⟩ := r
        rw [r2, gb_bd_s]
        simp only []
        rw [aim_c hl2 (by omega), gb_bd_s]
        obtain ⟨F'', rfl⟩ : ∃ F'', F' = F'' + 1 := ⟨F' - 1, by omega⟩
        rw [fin]
        exact ⟨_, c', rfl, cS_fr r3 fun a k z => pi_n (by omega), (pi_n (by omega)).trans r4, r5⟩
      | inr x =>
        obtain ⟨s', l', D', φ'⟩ := x
        rw [ho] at r v
        obtain ⟨r1, c', r2, r3, r4, r5, r6, r7, r8⟩ := r
        obtain ⟨v1, v2, v3, v4, v5, v6⟩ := v
        obtain ⟨a1, a2, a3, a4, a5, a6, a7⟩ := r3
        rw [r2, gb_bd_s]
        simp only []
        rw [aim_c hl2 (by omega), gb_bd_s, a4, o_succ]
        have z7 : (gb_pi r1 48 c (Int32.ofNat c')).1 47 = r1.1 47 := fn_n (by omega)
        have z8 : (gb_pi r1 48 c (Int32.ofNat c')).1 48 = upd (r1.1 48) c (Int32.ofNat c') := fn_e
        refine ih s' l' (Do cv D D') (φ || φ') (gb_pi r1 48 c (Int32.ofNat c')) c' (y3 + 1) F' (by omega) ⟨⟨cS_fr a1 fun a k z => pi_n (by omega), (pi_n (by omega)).trans a2, (pi_n (by omega)).trans a3, (pi_n (by omega)).trans a4, ?_, by omega, a7⟩, by omega, by omega, fun i hi => ?_, ?_, ?_, fun k => ?_⟩ (by omega) (by omega) (by omega) (by omega)
        · rw [pi_n (by omega), a5, Bool.or_assoc]
        · rw [z7, z8, upn (by omega), (r6 i (by omega)).1, (r6 i (by omega)).2, u3, u4, upn (by omega), upn (by omega), (F1 47 i (by omega)).1, (F1 48 i (by omega)).1]
          exact i4 i hi
        · rw [show l' - l0 = (l - l0) + (l' - l) by omega]
          refine XC_or (m := c) (i5.eq fun i hi hj => ?_) (r7.eq fun i hi hj => ?_) ?_ ?_ (by omega) (by omega) (by omega)
          · rw [z7, z8, upn (by omega), (r6 i (by omega)).1, (r6 i (by omega)).2, u3, u4, upn (by omega), upn (by omega), (F1 47 i (by omega)).1, (F1 48 i (by omega)).1]
            exact ⟨rfl, rfl⟩
          · rw [z7, z8, upn (by omega)]; exact ⟨rfl, rfl⟩
          · rw [z7, (r6 c (by omega)).1, u3, upe]; exact hop
          · rw [z8, upe]
        · rw [pi_n (by omega), r8.1, u5 _ _ (by omega) (by omega) (by omega), (F1 46 3 (by omega)).1]; exact i6.1
        · rw [pi_n (by omega), r8.2, u5 _ _ (by omega) (by omega) (by omega), (F1 50 k (by omega)).1]; exact i6.2 k
    · rw [if_neg q, fin1 _ _ _ _ s hC.1 q]
      exact ⟨g, c, rfl, hC, i2, i3, i4, i5, i6⟩
theorem andc0 {sh : List gb_Sh} {n s1 op d : Nat} {cv : Int32} {B : Nat → Int32} {ord : Bool} {R : gb_G → Int32 → Option (gb_G × Int32)} {pO : Nat → Nat → Ou} (L : Nat → gb_G → Int32 → Int32 → Int32 → Option (gb_G × Int32)) (hn : n ≤ 400) (hl1 : gb_ln sh 47 = 400) (hl2 : gb_ln sh 48 = 400) (hs1 : 2 ≤ s1 ∧ s1 ≤ 7) (hop : (Int32.ofNat op = 3 ∧ cv = 1) ∨ (Int32.ofNat op = 4 ∧ cv = 0))
    (hL : ∀ f g y1 y2 y3, L (f + 1) g y1 y2 y3 = if 400 ≤ y3 then (gb_bo y2 (some (g, y2))) else (if y2 = 0 then (gb_bo y2 (some (g, y2))) else (gb_bd (f_X8_readKeyword sh g s1) (fun r5 => if r5.2 = 0 then (gb_bo y2 (some (r5.1, y2))) else (gb_bd (f_X7_emit sh r5.1 46 (Int32.ofNat op) 0) (fun r8 => gb_bd (R r8.1 y1) (fun r10 => gb_bd (f_X7_aimHere sh r10.1 46 r8.2) (fun r12 => L f r12 y1 r10.2 (y3 + 1)))))))))
    (hR : ∀ s l, CO n B ord R s l d (pO s l)) (hV : ∀ s l, s ≤ n → l ≤ 50 → VO n ord s l (pO s l)) (s l : Nat) : CO n B ord (fun g x1 => gb_bd (R g x1) (fun r1 => L gb_N r1.1 x1 r1.2 0)) s l d (andO n B s1 cv pO s l) := by
  intro g c φ0 hC
  have r := hR s l g c φ0 hC
  have v := hV s l hC.1.2.1 hC.2.2.2.2.2.2
  show CO1 n B ord g s l c φ0 (gb_bd (R g (Int32.ofNat d)) (fun r1 => L gb_N r1.1 (Int32.ofNat d) r1.2 0)) _
  unfold andO
  cases ho : pO s l with
  | inl p =>
    rw [ho] at r
    obtain ⟨r1, c', r2, r3, r4, r5⟩ := r
    rw [r2, gb_bd_s]
    simp only []
    rw [show gb_N = 999999 + 1 from rfl, hL, gb_bo_s (Or.inl rfl), if_pos rfl]
    exact ⟨r1, c', by split <;> rfl, r3, r4, r5⟩
  | inr x =>
    obtain ⟨s', l', D', φ'⟩ := x
    rw [ho] at r v
    obtain ⟨r1, c', r2, r3⟩ := r
    obtain ⟨v1, v2, v3, v4, v5, v6⟩ := v
    rw [r2, gb_bd_s]
    exact andc L hn hl1 hl2 hs1 hop hL hR hV 400 s' l' D' φ' r1 c' 0 gb_N (by omega) r3 v3 v1 (by omega) (by rw [show gb_N = 1000000 from rfl]; omega)
theorem both_c {sh : List gb_Sh} {n d : Nat} {B : Nat → Int32} {ord : Bool} {R : gb_G → Int32 → Option (gb_G × Int32)} {pO : Nat → Nat → Ou} (hn : n ≤ 400) (hl1 : gb_ln sh 47 = 400) (hl2 : gb_ln sh 48 = 400) (hR : ∀ s l, CO n B ord R s l d (pO s l)) (hV : ∀ s l, s ≤ n → l ≤ 50 → VO n ord s l (pO s l)) (s l : Nat) : CO n B ord (fun g x => f_X8_readBoth sh R g x) s l d (andO n B 6 0 pO s l) :=
  andc0 (op := 4) (fun f => f_X8_readBoth_8 sh R f) hn hl1 hl2 (by omega) (Or.inr ⟨rfl, rfl⟩) (fun f g y1 y2 y3 => by rw [f_X8_readBoth_8]; rfl) hR hV s l
theorem test_c {sh : List gb_Sh} {n d : Nat} {B : Nat → Int32} {ord : Bool} {R : gb_G → Int32 → Option (gb_G × Int32)} {pO : Nat → Nat → Ou} (hn : n ≤ 400) (hl1 : gb_ln sh 47 = 400) (hl2 : gb_ln sh 48 = 400) (hR : ∀ s l, CO n B ord R s l d (pO s l)) (hV : ∀ s l, s ≤ n → l ≤ 50 → VO n ord s l (pO s l)) (s l : Nat) : CO n B ord (fun g x => f_X8_readTest sh R g x) s l d (andO n B 5 1 pO s l) :=
  andc0 (op := 3) (fun f => f_X8_readTest_8 sh R f) hn hl1 hl2 (by omega) (Or.inl ⟨rfl, rfl⟩) (fun f g y1 y2 y3 => by rw [f_X8_readTest_8]; rfl) hR hV s l
