/-! ===== round: the class ===== -/
noncomputable def plc (β : ms_B) (i : Nat) : Nat := if i < bN β then (bT β (fsrc β i) 4).toInt.toNat else 0
theorem plc_b {β : ms_B} (hw : wfB β) : ∀ i, plc β i ≤ 24 := by
  intro i
  unfold plc
  split
  · rename_i q
    exact on_b (M := 24) (hw.2.2.2.2.2.2.1 _ (fsrc_b hw q)).2.2.2.2.1
  · omega
theorem plc_e {β : ms_B} {i : Nat} (hw : wfB β) (hi : i < bN β) : bT β (fsrc β i) 4 = Int32.ofNat (plc β i) := by
  unfold plc
  rw [if_pos hi, on (hw.2.2.2.2.2.2.1 _ (fsrc_b hw hi)).2.2.2.2.1.1]
/-- the set of GOODS that count -/
noncomputable def WT (β : ms_B) : Nat → Nat
  | 0 => 0
  | k + 1 => if k < bN β ∧ 0 < fC β (ms_lw β (bF β)) k then WT β k + 2 ^ k else WT β k
theorem WT_b {β : ms_B} : ∀ k, k ≤ 8 → WT β k < 2 ^ k ∧ WT β k < 256 ∧ ∀ i, i < 8 → (sb (WT β k) i = 1 ↔ i < k ∧ i < bN β ∧ 0 < fC β (ms_lw β (bF β)) i) := by
  intro k
  induction k with
  | zero =>
    intro _
    refine ⟨by show 0 < 2 ^ 0; decide, by show 0 < 256; omega, fun i hi => ⟨fun h => ?_, fun h => by omega⟩⟩
    have : sb 0 i = 0 := by unfold sb; rw [Nat.zero_div]
    have h' : sb 0 i = 1 := h
    omega
  | succ k ih =>
    intro hk
    obtain ⟨a, b, c⟩ := ih (by omega)
    rw [WT]
    by_cases q : k < bN β ∧ 0 < fC β (ms_lw β (bF β)) k
    · rw [if_pos q]
      obtain ⟨d, e, f, -⟩ := s_ad k (by omega) _ b a
      refine ⟨f, e, fun i hi => ?_⟩
      rw [d i hi]
      by_cases ei : i = k
      · rw [if_pos ei, ei]; exact ⟨fun _ => ⟨by omega, q⟩, fun _ => rfl⟩
      · rw [if_neg ei, c i hi]; exact ⟨fun h => ⟨by omega, h.2⟩, fun h => ⟨by omega, h.2⟩⟩
    · rw [if_neg q]
      have p : 2 ^ k ≤ 2 ^ (k + 1) := Nat.pow_le_pow_right (by omega) (by omega)
      refine ⟨by omega, b, fun i hi => ?_⟩
      rw [c i hi]
      constructor
      · intro h; exact ⟨by omega, h.2⟩
      · intro h
        by_cases ei : i = k
        · rw [ei] at h; exact absurd h.2 q
        · exact ⟨by omega, h.2⟩
theorem WT_n {β : ms_B} (hw : wfB β) : ∀ d, WT β (bN β + d) = WT β (bN β) := by
  intro d
  induction d with
  | zero => rfl
  | succ d ih => rw [← Nat.add_assoc, WT, if_neg (by omega), ih]
theorem WT_8 {β : ms_B} (hw : wfB β) : WT β 8 = WT β (bN β) := by
  have := WT_n hw (8 - bN β)
  rw [show bN β + (8 - bN β) = 8 by have := hw.1; omega] at this
  exact this
def cvP (g : gb_G) (W : Nat) (pl : Nat → Nat) : Prop := ∀ i, i < 8 → sb W i = 1 → g.1 70 i = Int32.ofNat (pl i)
theorem lP_16 {sh : List gb_Sh} {β : ms_B} (hw : wfB β) : ∀ (m k fuel : Nat) (g : gb_G), k + m = 8 → m < fuel → cvB sh g 1 β → cvF g (bN β) (fC β (ms_lw β (bF β))) (fB β) (fP β) → (∀ i, i < k → sb (WT β k) i = 1 → g.1 70 i = Int32.ofNat (plc β i)) → gb_T (f_X6_loadPlaces_16 sh 1 fuel g (Int32.ofNat (WT β k)) (Int32.ofNat k)) (fun o => o.2 = Int32.ofNat (WT β 8) ∧ cvP o.1 (WT β 8) (plc β)) := by
  have hn := hw.1
  intro m
  induction m with
  | zero =>
    intro k fuel g h hf hc hF h70
    obtain ⟨f, rfl⟩ : ∃ f, fuel = f + 1 := ⟨fuel - 1, by omega⟩
    have e : k = 8 := by omega
    subst e
    rw [f_X6_loadPlaces_16, if_pos (by decide)]
    exact ⟨_, rfl, rfl, h70⟩
  | succ m ih =>
    intro k fuel g h hf hc hF h70
    obtain ⟨f, rfl⟩ : ∃ f, fuel = f + 1 := ⟨fuel - 1, by omega⟩
    obtain ⟨b1, b2, b3⟩ := WT_b (β := β) k (by omega)
    obtain ⟨c1, c2, c3⟩ := WT_b (β := β) (k + 1) (by omega)
    rw [f_X6_loadPlaces_16, if_neg (by rw [show (8 : Int32) = Int32.ofNat 8 from rfl, o_le (by omega) (by omega)]; omega)]
    have fin : ∀ v : Int32, (sb (WT β (k + 1)) k = 1 → v = Int32.ofNat (plc β k)) → gb_T (f_X6_loadPlaces_16 sh 1 f (gb_pi g 70 k v) (Int32.ofNat (WT β (k + 1))) (Int32.ofNat (k + 1))) (fun o => o.2 = Int32.ofNat (WT β 8) ∧ cvP o.1 (WT β 8) (plc β)) := by
      intro v hv
      refine ih (k + 1) f _ (by omega) (by omega) (cvB_fr hc fun c k q => ⟨pi_n (by omega), rfl, rfl⟩) (cvF_fr hF fun a k q => pi_n (by omega)) (fun i hi q => ?_)
      by_cases ei : i = k
      · rw [ei] at q
        rw [ei, pi_e]; exact hv q
      · rw [pi_n (by omega)]
        refine h70 i (by omega) ((b3 i (by omega)).2 ?_)
        have := (c3 i (by omega)).1 q
        exact ⟨by omega, this.2⟩
    have no : ¬ (k < bN β ∧ 0 < fC β (ms_lw β (bF β)) k) → gb_T (f_X6_loadPlaces_47 sh 1 (fun w w0 w1 => f_X6_loadPlaces_16 sh 1 f w w0 w1) g (Int32.ofNat (WT β k)) (Int32.ofNat k) 0) (fun o => o.2 = Int32.ofNat (WT β 8) ∧ cvP o.1 (WT β 8) (plc β)) := by
      intro q
      unfold f_X6_loadPlaces_47 f_X6_loadPlaces_73 f_X6_loadPlaces_87
      rw [if_pos rfl, gb_ck_s (o_in (by omega) (by omega)), gb_let_s, if_pos rfl, o_cl (by omega), o_succ, Int32.or_zero]
      have z := fin 0 (fun y => absurd ((c3 k (by omega)).1 y).2 q)
      rw [WT, if_neg q] at z
      exact z
    by_cases q0 : k < bN β
    · rw [has_t hn hc.1 (o_im _ q0 (by omega)), bt, gb_ck_s (o_in (by omega) (by omega)), o_cl (by omega)]
      simp only []
      have hcb := ((wfF_of (L := ms_lw β (bF β)) hw).2 k q0).1
      rw [(hF.2 k q0).1]
      by_cases q1 : 0 < fC β (ms_lw β (bF β)) k
      · rw [if_neg (by rw [show (0 : Int32) = Int32.ofNat 0 from rfl, o_le (by omega) (by omega)]; omega)]
        unfold f_X6_loadPlaces_47 f_X6_loadPlaces_73 f_X6_loadPlaces_87
        rw [if_neg (show ¬ (1 : Int32) = 0 by decide), so_c hw hc q0, gb_bd_s]
        obtain ⟨v0, e0, w0⟩ := src_rd (j := 4) hw hc q0 (by omega)
        simp only []
        rw [show f_X0_read sh g 1 (if bT β k 5 = 1 then bT β k 6 else Int32.ofNat k) 4 = some (g, v0) from e0, gb_bd_s, gb_ck_s (o_in (by omega) (by omega)), gb_let_s, if_neg (show ¬ (1 : Int32) = 0 by decide), o_cl (by omega), o_succ]
        simp only []
        obtain ⟨-, -, -, d4⟩ := s_ad k (by omega) _ b2 b1
        rw [d4]
        have z := fin v0 (fun _ => by
          rw [w0 (fun y => by rw [fC_out y] at q1; omega)]
          exact plc_e hw q0)
        rw [WT, if_pos ⟨q0, q1⟩] at z
        exact z
      · rw [if_pos (by rw [show (0 : Int32) = Int32.ofNat 0 from rfl, o_le (by omega) (by omega)]; omega)]
        exact no fun y => q1 y.2
    · rw [has_f hn hc.1 (by rw [im, o_int (by omega)]; omega), bf]
      exact no fun y => q0 y.1
theorem lP {sh : List gb_Sh} {g : gb_G} {β : ms_B} (hw : wfB β) (hc : cvB sh g 1 β) : gb_T (f_X6_loadPlaces sh g 1) (fun o => o.2 = Int32.ofNat (WT β 8) ∧ cvP o.1 (WT β 8) (plc β)) := by
  obtain ⟨q2, e2, hL⟩ := lif_c hw hc
  unfold f_X6_loadPlaces
  rw [e2, gb_bd_s]
  obtain ⟨g1, e1, v1⟩ := ld (sh := sh) (b := 1) (by omega) hw hc hL
  have F1 := w_X1_load e1
  refine gb_T.bs e1 ?_
  exact lP_16 hw 8 0 gb_N g1 (by omega) (by unfold gb_N; omega) (cvB_fr hc fun c k q => F1 c k (by omega)) v1 (fun i hi => by omega)
/-- the class' table of the fewest steps, of sets below S -/
def cvQ (g : gb_G) (W S : Nat) (pl : Nat → Nat) : Prop := ∀ t, 1 ≤ t → t < S → sub8 t W → ∀ i, i < 8 → sb W i = 1 → ¬ sb t i = 1 → g.1 69 (8 * t + i) = Int32.ofNat (FS pl t (pl i))
theorem sub_rm {s W g : Nat} (hs : s < 256) (hg : g < 8) (hb : sb s g = 1) (h : sub8 s W) : sub8 (s - 2 ^ g) W ∧ ¬ sb (s - 2 ^ g) g = 1 ∧ sb W g = 1 := by
  refine ⟨fun i hi q => ?_, ?_, h g hg hb⟩
  · rw [s_bt g hg s hs hb i hi] at q
    split at q
    · omega
    · exact h i hi q
  · rw [s_bt g hg s hs hb g hg, if_pos rfl]; omega
theorem sh_5 {sh : List gb_Sh} {g : gb_G} {W s p : Nat} {pl : Nat → Nat} (hpl : ∀ i, pl i ≤ 24) (hs : s < 256) (hp : p ≤ 24) (hW : sub8 s W) (hP : cvP g W pl) (hQ : cvQ g W s pl) : ∀ (m k fuel : Nat) (y : Int32), k + m = 8 → m < fuel → ((y = -1 ∧ ∀ i, i < k → ¬ sb s i = 1) ∨ (0 < k ∧ sb s (fmi (cR pl (FS pl) s p) (k - 1)) = 1 ∧ y = Int32.ofNat (cR pl (FS pl) s p (fmi (cR pl (FS pl) s p) (k - 1)) * 8 + fmi (cR pl (FS pl) s p) (k - 1)))) → f_X6_shortest_5 sh fuel g (Int32.ofNat p) (Int32.ofNat s) y (Int32.ofNat k) = some (g, if s = 0 then 0 else Int32.ofNat (FS pl s p * 8 + aR pl s p)) := by
  intro m
  induction m with
  | zero =>
    intro k fuel y h hf hy
    obtain ⟨f, rfl⟩ : ∃ f, fuel = f + 1 := ⟨fuel - 1, by omega⟩
    have e : k = 8 := by omega
    subst e
    rw [f_X6_shortest_5, if_pos (by decide)]
    unfold f_X6_shortest_108 f_J9_max_7cf53
    rcases hy with ⟨y1, y2⟩ | ⟨y1, y2, y3⟩
    · have hz : s = 0 := Classical.byContradiction fun z => by
        obtain ⟨g, hg, hb⟩ := s_ex s hs z
        exact y2 g hg hb
      rw [y1, if_pos hz, if_neg (by decide), gb_bd_s]
    · have hz : ¬ s = 0 := fun z => by
        rw [z] at y2
        have : ∀ i, sb 0 i = 0 := fun i => by unfold sb; rw [Nat.zero_div]
        rw [this] at y2
        omega
      have e1 := (FS_a hpl hs hp hz).1
      have e2 := cR_b hpl hs hp y2
      have e3 := aR_8 (pl := pl) (s := s) (p := p)
      have y3' : y = Int32.ofNat (FS pl s p * 8 + aR pl s p) := by rw [y3, e1]; rfl
      have e4 : cR pl (FS pl) s p (aR pl s p) ≤ 2048 := e2
      rw [if_neg hz, y3']
      by_cases q : (0 : Int32) < Int32.ofNat (FS pl s p * 8 + aR pl s p)
      · rw [if_pos q, gb_bd_s]
      · rw [if_neg q, gb_bd_s]
        rw [show (0 : Int32) = Int32.ofNat 0 from rfl, o_lt (by omega) (by omega)] at q
        rw [show FS pl s p * 8 + aR pl s p = 0 by omega]; rfl
  | succ m ih =>
    intro k fuel y h hf hy
    obtain ⟨f, rfl⟩ : ∃ f, fuel = f + 1 := ⟨fuel - 1, by omega⟩
    rw [f_X6_shortest_5, if_neg (by rw [show (8 : Int32) = Int32.ofNat 8 from rfl, o_le (by omega) (by omega)]; omega), if_neg (by rw [show (256 : Int32) = Int32.ofNat 256 from rfl, o_le (by omega) (by omega)]; omega), sb_e (by omega) (by omega)]
    rcases sb_01 s k with e | e
    · rw [if_neg (by rw [e]; decide)]
      unfold f_X6_shortest_102
      rw [o_succ]
      refine ih (k + 1) f y (by omega) (by omega) ?_
      rcases hy with ⟨y1, y2⟩ | ⟨y1, y2, y3⟩
      · refine Or.inl ⟨y1, fun i hi => ?_⟩
        by_cases ei : i = k
        · rw [ei]; omega
        · exact y2 i (by omega)
      · have ef : fmi (cR pl (FS pl) s p) (k + 1 - 1) = fmi (cR pl (FS pl) s p) (k - 1) := by
          rw [show k + 1 - 1 = (k - 1) + 1 by omega, fmi, if_neg]
          rw [show k - 1 + 1 = k by omega, cR_n (by omega)]
          have := cR_b hpl hs hp y2
          omega
        exact Or.inr ⟨by omega, by rw [ef]; exact y2, by rw [ef]; exact y3⟩
    · obtain ⟨r1, r2⟩ := s_rm s hs k (by omega) e
      obtain ⟨u1, u2, u3⟩ := sub_rm hs (by omega) e hW
      have hp2 := pw1 k
      have cb := cR_b hpl hs hp e
      have ce : cR pl (FS pl) s p k = stN p (pl k) + FS pl (s - 2 ^ k) (pl k) := if_pos e
      have hplk := hpl k
      rw [if_pos (by rw [e]; rfl), gb_ck_s (o_in (by omega) (by omega)), o_cl (by omega), hP k (by omega) u3, sB_c (by omega) (by omega), gb_bd_s, r1]
      simp only []
      have fin : ∀ z : Int32, z = Int32.ofNat (cR pl (FS pl) s p k) → f_X6_shortest_75 sh (fun w w0 w1 w2 w3 => f_X6_shortest_102 sh (fun w w0 w1 w2 w3 => f_X6_shortest_5 sh f w w0 w1 w2 w3) w w0 w1 w2 w3) g (Int32.ofNat p) (Int32.ofNat s) y (Int32.ofNat k) z = some (g, if s = 0 then 0 else Int32.ofNat (FS pl s p * 8 + aR pl s p)) := by
        intro z hz
        subst hz
        unfold f_X6_shortest_75 f_X6_shortest_101 f_X6_shortest_102
        rw [show (8 : Int32) = Int32.ofNat 8 from rfl, o_mul, o_add]
        simp only []
        rw [o_succ]
        rcases hy with ⟨y1, y2⟩ | ⟨y1, y2, y3⟩
        · rw [if_pos y1]
          have ef : ∀ j, j ≤ k → (∀ i, i < j → ¬ sb s i = 1) → 0 < j → fmi (cR pl (FS pl) s p) (j - 1) = 0 := by
            intro j
            induction j with
            | zero => intro _ _ h; omega
            | succ j ihj =>
              intro hj hn _
              cases j with
              | zero => rfl
              | succ j =>
                have e0 := ihj (by omega) (fun i hi => hn i (by omega)) (by omega)
                rw [show j + 1 + 1 - 1 = j + 1 by omega, fmi]
                rw [show j + 1 - 1 = j by omega] at e0
                rw [e0, if_neg]
                rw [cR_n (hn 0 (by omega)), cR_n (hn (j + 1) (by omega))]
                omega
          have ek : fmi (cR pl (FS pl) s p) (k + 1 - 1) = k := by
            rw [show k + 1 - 1 = k by omega]
            cases k with
            | zero => rfl
            | succ k =>
              have e0 := ef (k + 1) (by omega) y2 (by omega)
              rw [show k + 1 - 1 = k by omega] at e0
              rw [fmi, e0, if_pos]
              rw [cR_n (y2 0 (by omega))]
              omega
          exact ih (k + 1) f _ (by omega) (by omega) (Or.inr ⟨by omega, by rw [ek]; exact e, by rw [ek]⟩)
        · have mb := cR_b hpl hs hp y2
          have ml := fm_le (c := cR pl (FS pl) s p) (k - 1)
          rw [if_neg (by rw [y3]; exact o_ne1 (by omega))]
          unfold f_J9_min_7cf53
          have ef : fmi (cR pl (FS pl) s p) (k + 1 - 1) = if cR pl (FS pl) s p k < cR pl (FS pl) s p (fmi (cR pl (FS pl) s p) (k - 1)) then k else fmi (cR pl (FS pl) s p) (k - 1) := by
            rw [show k + 1 - 1 = (k - 1) + 1 by omega, fmi, show k - 1 + 1 = k by omega]
          rw [y3]
          by_cases q : cR pl (FS pl) s p k < cR pl (FS pl) s p (fmi (cR pl (FS pl) s p) (k - 1))
          · rw [if_pos (by rw [o_lt (by omega) (by omega)]; omega), gb_bd_s]
            rw [if_pos q] at ef
            exact ih (k + 1) f _ (by omega) (by omega) (Or.inr ⟨by omega, by rw [ef]; exact e, by rw [ef]⟩)
          · rw [if_neg (by rw [o_lt (by omega) (by omega)]; omega), gb_bd_s]
            rw [if_neg q] at ef
            exact ih (k + 1) f _ (by omega) (by omega) (Or.inr ⟨by omega, by rw [ef]; exact y2, by rw [ef]⟩)
      by_cases q : s - 2 ^ k = 0
      · rw [if_pos (by rw [q]; decide)]
        refine fin _ ?_
        rw [ce, q, FS_0, Nat.add_zero]
      · rw [if_neg (by rw [show (0 : Int32) = Int32.ofNat 0 from rfl, o_le (by omega) (by omega)]; omega), show (8 : Int32) = Int32.ofNat 8 from rfl, o_mul, o_add, gb_ck_s (o_in (by omega) (by omega)), o_cl (by omega), show (s - 2 ^ k) * 8 + k = 8 * (s - 2 ^ k) + k by omega, hQ (s - 2 ^ k) (by omega) (by omega) u1 k (by omega) u3 u2, o_add]
        refine fin _ ?_
        rw [ce]
theorem sh_c {sh : List gb_Sh} {g : gb_G} {W s p : Nat} {pl : Nat → Nat} (hpl : ∀ i, pl i ≤ 24) (hs : s < 256) (hp : p ≤ 24) (hW : sub8 s W) (hP : cvP g W pl) (hQ : cvQ g W s pl) : f_X6_shortest sh g (Int32.ofNat p) (Int32.ofNat s) = some (g, if s = 0 then 0 else Int32.ofNat (FS pl s p * 8 + aR pl s p)) :=
  sh_5 hpl hs hp hW hP hQ 8 0 gb_N (-1) (by omega) (by unfold gb_N; omega) (Or.inl ⟨rfl, fun i hi => by omega⟩)
theorem wk_26 {sh : List gb_Sh} {W t p : Nat} {pl : Nat → Nat} {K : gb_G → Int32 → Int32 → Int32 → Option (gb_G × Int32)} {P : gb_G × Int32 → Prop} (hpl : ∀ i, pl i ≤ 24) (hW : W < 256) (ht : t < W) (ht1 : 1 ≤ t) (hK : ∀ g, cvP g W pl → cvQ g W (t + 1) pl → gb_T (K g (Int32.ofNat p) (Int32.ofNat W) (Int32.ofNat (t + 1))) P) : ∀ (m k fuel : Nat) (g : gb_G), k + m = 8 → m < fuel → cvP g W pl → cvQ g W t pl → (sub8 t W → ∀ i, i < k → sb W i = 1 → ¬ sb t i = 1 → g.1 69 (8 * t + i) = Int32.ofNat (FS pl t (pl i))) → gb_T (f_X6_walk_26 sh 1 K fuel g (Int32.ofNat p) (Int32.ofNat W) (Int32.ofNat t) (Int32.ofNat k)) P := by
  intro m
  induction m with
  | zero =>
    intro k fuel g h hf hP hQ hR
    obtain ⟨f, rfl⟩ : ∃ f, fuel = f + 1 := ⟨fuel - 1, by omega⟩
    have e : k = 8 := by omega
    subst e
    rw [f_X6_walk_26, if_pos (by decide)]
    unfold f_X6_walk_92
    rw [o_succ]
    refine hK g hP fun t' h1 h2 h3 => ?_
    by_cases et : t' = t
    · rw [et] at h3 ⊢; exact hR h3
    · exact hQ t' h1 (by omega) h3
  | succ m ih =>
    intro k fuel g h hf hP hQ hR
    obtain ⟨f, rfl⟩ : ∃ f, fuel = f + 1 := ⟨fuel - 1, by omega⟩
    rw [f_X6_walk_26, if_neg (by rw [show (8 : Int32) = Int32.ofNat 8 from rfl, o_le (by omega) (by omega)]; omega)]
    by_cases q : sub8 t W
    · obtain ⟨d, d1, d2, d3⟩ := s_out (t := t) (W := W) (by omega) hW
      rw [if_pos ((s_and (by omega) hW).2 q), d2, sb_e (by omega) (by omega)]
      unfold f_X6_walk_86
      rw [o_succ]
      by_cases q2 : sb W k = 1 ∧ ¬ sb t k = 1
      · rw [if_pos (by rw [(d3 k (by omega)).2 q2]; rfl), gb_ck_s (o_in (by omega) (by omega)), o_cl (by omega), hP k (by omega) q2.1, sh_c hpl (by omega) (hpl k) q hP hQ, gb_bd_s]
        have fb := FS_b hpl t (by omega) (pl k) (hpl k)
        have a8 := aR_8 (pl := pl) (s := t) (p := pl k)
        have ed : Int32.ofNat (FS pl t (pl k) * 8 + aR pl t (pl k)) / 8 = Int32.ofNat (FS pl t (pl k)) := by
          have z : Int32.ofNat (FS pl t (pl k) * 8 + aR pl t (pl k)) / Int32.ofNat 8 = Int32.ofNat ((FS pl t (pl k) * 8 + aR pl t (pl k)) / 8) := pk_div (by omega) (by omega) (by omega)
          rw [show (FS pl t (pl k) * 8 + aR pl t (pl k)) / 8 = FS pl t (pl k) by omega] at z
          exact z
        simp only []
        rw [show (8 : Int32) = Int32.ofNat 8 from rfl] at ed ⊢
        rw [o_mul, o_add, gb_ck_s (o_in (by omega) (by omega)), gb_let_s, o_cl (by omega), if_neg (by omega), ed, show t * 8 + k = 8 * t + k by omega]
        refine ih (k + 1) f _ (by omega) (by omega) (fun i hi hb => (pi_n (by omega)).trans (hP i hi hb)) (fun t' h1 h2 h3 i hi hb1 hb2 => (pi_n (by omega)).trans (hQ t' h1 h2 h3 i hi hb1 hb2)) (fun hs i hi hb1 hb2 => ?_)
        by_cases ei : i = k
        · rw [ei, pi_e]
        · rw [pi_n (by omega)]; exact hR hs i (by omega) hb1 hb2
      · rw [if_neg (by
          intro z
          rcases sb_01 d k with y | y
          · rw [y] at z; exact absurd z (by decide)
          · exact q2 ((d3 k (by omega)).1 y))]
        refine ih (k + 1) f g (by omega) (by omega) hP hQ (fun hs i hi hb1 hb2 => ?_)
        by_cases ei : i = k
        · rw [ei] at hb1 hb2; exact absurd ⟨hb1, hb2⟩ q2
        · exact hR hs i (by omega) hb1 hb2
    · rw [if_neg (fun z => q ((s_and (by omega) hW).1 z))]
      unfold f_X6_walk_92
      rw [o_succ]
      refine hK g hP fun t' h1 h2 h3 => ?_
      by_cases et : t' = t
      · rw [et] at h3; exact absurd h3 q
      · exact hQ t' h1 (by omega) h3
theorem wk_123 {sh : List gb_Sh} {W p : Nat} {pl : Nat → Nat} {y4 : Int32} (hpl : ∀ i, pl i ≤ 24) (hW : W < 256) (hp : p ≤ 24) : ∀ (m k fuel : Nat) (g : gb_G), k + m = pc W → m < fuel → cvP g W pl → cvQ g W W pl → g.1 63 10 = Int32.ofNat k → (∀ i, i < k → g.1 71 i = Int32.ofNat (aR pl (pth pl W p i).1 (pth pl W p i).2)) → gb_T (f_X6_walk_123 sh 1 fuel g y4 (Int32.ofNat (pth pl W p k).2) (Int32.ofNat (pth pl W p k).1) (Int32.ofNat k)) (fun o => o.2 = y4 ∧ o.1.1 63 10 = Int32.ofNat (pc W) ∧ ∀ i, i < pc W → o.1.1 71 i = Int32.ofNat (aR pl (pth pl W p i).1 (pth pl W p i).2)) := by
  have h8 := pc_b W
  intro m
  induction m with
  | zero =>
    intro k fuel g h hf hP hQ h10 h71
    obtain ⟨f, rfl⟩ : ∃ f, fuel = f + 1 := ⟨fuel - 1, by omega⟩
    have e : k = pc W := by omega
    subst e
    have hz : (pth pl W p (pc W)).1 = 0 := (pc_0 _ (pth_b hpl hW hp _).1).1 (by have := pth_p hpl hW hp (pc W) (Nat.le_refl _); omega)
    rw [f_X6_walk_123, hz, if_pos (show Int32.ofNat 0 = 0 from rfl)]
    have fin : gb_T (some (g, y4)) (fun o => o.2 = y4 ∧ o.1.1 63 10 = Int32.ofNat (pc W) ∧ ∀ i, i < pc W → o.1.1 71 i = Int32.ofNat (aR pl (pth pl W p i).1 (pth pl W p i).2)) := ⟨_, rfl, rfl, h10, h71⟩
    split
    · exact fin
    · exact fin
  | succ m ih =>
    intro k fuel g h hf hP hQ h10 h71
    obtain ⟨f, rfl⟩ : ∃ f, fuel = f + 1 := ⟨fuel - 1, by omega⟩
    obtain ⟨b1, b2⟩ := pth_b hpl hW hp k
    have hs := pth_s hpl hW hp k
    have hpc := pth_p hpl hW hp k (by omega)
    have hz : ¬ (pth pl W p k).1 = 0 := fun z => by rw [(pc_0 _ b1).2 z] at hpc; omega
    have hle : (pth pl W p k).1 ≤ W := by
      cases k with
      | zero => exact Nat.le_refl _
      | succ k =>
        have : ∀ j, (pth pl W p j).1 ≤ W := by
          intro j
          induction j with
          | zero => exact Nat.le_refl _
          | succ j ihj => exact Nat.le_trans (Nat.sub_le _ _) ihj
        exact this _
    have am := aR_m hpl b1 b2 hz
    have a8 := aR_8 (pl := pl) (s := (pth pl W p k).1) (p := (pth pl W p k).2)
    have fb := FS_b hpl _ b1 _ b2
    have hplA := hpl (aR pl (pth pl W p k).1 (pth pl W p k).2)
    obtain ⟨r1, r2⟩ := s_rm _ b1 _ a8 am
    obtain ⟨u1, u2, u3⟩ := sub_rm b1 a8 am hs
    have er : gb_rem (Int32.ofNat (FS pl (pth pl W p k).1 (pth pl W p k).2 * 8 + aR pl (pth pl W p k).1 (pth pl W p k).2)) 8 = Int32.ofNat (aR pl (pth pl W p k).1 (pth pl W p k).2) := by
      have z := rem_N (a := FS pl (pth pl W p k).1 (pth pl W p k).2 * 8 + aR pl (pth pl W p k).1 (pth pl W p k).2) (d := 8) (by omega) (by omega) (by omega)
      rw [show (FS pl (pth pl W p k).1 (pth pl W p k).2 * 8 + aR pl (pth pl W p k).1 (pth pl W p k).2) % 8 = aR pl (pth pl W p k).1 (pth pl W p k).2 by omega] at z
      exact z
    rw [f_X6_walk_123, if_neg (by rw [show (8 : Int32) = Int32.ofNat 8 from rfl, o_le (by omega) (by omega)]; omega), if_neg (show ¬ Int32.ofNat (pth pl W p k).1 = 0 from fun z => hz (o_inj (j := 0) (by omega) (by omega) z)), sh_c hpl b1 b2 hs hP (fun t h1 h2 => hQ t h1 (by omega)), gb_bd_s]
    simp only []
    rw [if_neg hz, er, gb_ck_s (o_in (by omega) (by omega)), gb_let_s, gb_let_s, gb_ck_s (o_in (by omega) (by omega)), o_cl (by omega), o_cl (by omega), o_succ, pi_n (show ¬ ((70 : Nat) = 63 ∧ _) by omega), pi_n (show ¬ ((70 : Nat) = 71 ∧ _) by omega), hP _ a8 u3, r1]
    refine ih (k + 1) f _ (by omega) (by omega) (fun i hi hb => (pi_n (by omega)).trans ((pi_n (by omega)).trans (hP i hi hb))) (fun t' h1 h2 h3 i hi hb1 hb2 => (pi_n (by omega)).trans ((pi_n (by omega)).trans (hQ t' h1 h2 h3 i hi hb1 hb2))) pi_e (fun i hi => ?_)
    rw [pi_n (by omega)]
    by_cases ei : i = k
    · rw [ei, pi_e]
    · rw [pi_n (by omega)]; exact h71 i (by omega)
theorem wk_98 {sh : List gb_Sh} {g : gb_G} {W p : Nat} {pl : Nat → Nat} (hpl : ∀ i, pl i ≤ 24) (hW : W < 256) (hp : p ≤ 24) (hP : cvP g W pl) (hQ : cvQ g W W pl) : gb_T (f_X6_walk_98 sh 1 g (Int32.ofNat p) (Int32.ofNat W)) (fun o => o.2 = Int32.ofNat (FS pl W p) ∧ o.1.1 63 10 = Int32.ofNat (pc W) ∧ ∀ i, i < pc W → o.1.1 71 i = Int32.ofNat (aR pl (pth pl W p i).1 (pth pl W p i).2)) := by
  have h8 := pc_b W
  have fb := FS_b hpl W hW p hp
  have a8 := aR_8 (pl := pl) (s := W) (p := p)
  have hP1 : cvP (gb_pi g 63 10 0) W pl := fun i hi hb => (pi_n (by omega)).trans (hP i hi hb)
  have hQ1 : cvQ (gb_pi g 63 10 0) W W pl := fun t' h1 h2 h3 i hi hb1 hb2 => (pi_n (by omega)).trans (hQ t' h1 h2 h3 i hi hb1 hb2)
  unfold f_X6_walk_98
  rw [gb_let_s, sh_c hpl hW hp (fun i _ h => h) hP1 hQ1, gb_bd_s]
  have ed : (if W = 0 then (0 : Int32) else Int32.ofNat (FS pl W p * 8 + aR pl W p)) / 8 = Int32.ofNat (FS pl W p) := by
    by_cases q : W = 0
    · rw [if_pos q, q, FS_0]; decide
    · rw [if_neg q]
      have z : Int32.ofNat (FS pl W p * 8 + aR pl W p) / Int32.ofNat 8 = Int32.ofNat ((FS pl W p * 8 + aR pl W p) / 8) := pk_div (by omega) (by omega) (by omega)
      rw [show (FS pl W p * 8 + aR pl W p) / 8 = FS pl W p by omega] at z
      exact z
  simp only []
  rw [ed]
  exact wk_123 hpl hW hp (pc W) 0 gb_N (gb_pi g 63 10 0) (by omega) (by unfold gb_N; omega) hP1 hQ1 pi_e (fun i hi => by omega)
theorem wk_9 {sh : List gb_Sh} {W p : Nat} {pl : Nat → Nat} (hpl : ∀ i, pl i ≤ 24) (hW : W < 256) (hp : p ≤ 24) : ∀ (m t fuel : Nat) (g : gb_G), t + m = W + 1 → 1 ≤ t → m < fuel → cvP g W pl → cvQ g W t pl → gb_T (f_X6_walk_9 sh 1 fuel g (Int32.ofNat p) (Int32.ofNat W) (Int32.ofNat t)) (fun o => o.2 = Int32.ofNat (FS pl W p) ∧ o.1.1 63 10 = Int32.ofNat (pc W) ∧ ∀ i, i < pc W → o.1.1 71 i = Int32.ofNat (aR pl (pth pl W p i).1 (pth pl W p i).2)) := by
  intro m
  induction m with
  | zero =>
    intro t fuel g h h1 hf hP hQ
    obtain ⟨f, rfl⟩ : ∃ f, fuel = f + 1 := ⟨fuel - 1, by omega⟩
    rw [f_X6_walk_9, if_pos (by rw [o_le (by omega) (by omega)]; omega)]
    exact wk_98 hpl hW hp hP (fun t' a b => hQ t' a (by omega))
  | succ m ih =>
    intro t fuel g h h1 hf hP hQ
    obtain ⟨f, rfl⟩ : ∃ f, fuel = f + 1 := ⟨fuel - 1, by omega⟩
    by_cases q : t = W
    · rw [f_X6_walk_9, if_pos (by rw [o_le (by omega) (by omega)]; omega)]
      exact wk_98 hpl hW hp hP (fun t' a b => hQ t' a (by omega))
    · rw [f_X6_walk_9, if_neg (by rw [o_le (by omega) (by omega)]; omega), if_neg (by rw [show (256 : Int32) = Int32.ofNat 256 from rfl, o_le (by omega) (by omega)]; omega)]
      exact wk_26 hpl hW (by omega) h1 (fun g' hP' hQ' => ih (t + 1) f g' (by omega) (by omega) (by omega) hP' hQ') 8 0 gb_N g (by omega) (by unfold gb_N; omega) hP hQ (fun _ i hi => by omega)
theorem wlk {sh : List gb_Sh} {g : gb_G} {β : ms_B} {p : Nat} (hw : wfB β) (hc : cvB sh g 1 β) (hp : p ≤ 24) : gb_T (f_X6_walk sh g 1 (Int32.ofNat p)) (fun o => o.2 = Int32.ofNat (FS (plc β) (WT β 8) p) ∧ o.1.1 63 10 = Int32.ofNat (pc (WT β 8)) ∧ ∀ i, i < pc (WT β 8) → o.1.1 71 i = Int32.ofNat (aR (plc β) (pth (plc β) (WT β 8) p i).1 (pth (plc β) (WT β 8) p i).2)) := by
  obtain ⟨o, e, v, hP⟩ := lP (sh := sh) hw hc
  have hW := (WT_b (β := β) 8 (by omega)).2.1
  unfold f_X6_walk
  refine gb_T.bs e ?_
  rw [v]
  exact wk_9 (plc_b hw) hW hp (WT β 8) 1 gb_N o.1 (by omega) (by omega) (by unfold gb_N; omega) hP (fun t h1 h2 => by omega)
