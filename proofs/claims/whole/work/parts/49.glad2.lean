/-! ===== glad: the reference ===== -/
theorem lb_m {sh : List gb_Sh} {g : gb_G} {β : ms_B} {k w m d X : Nat} {L : Nat → Nat} (hw : wfB β) (hm : mR g β) (hk : k < bN β) (hX : X ≤ 99) (hwX : w ≤ X) (hmm : m ≤ 9) (hL : ∀ w, L w = 100000000 ∨ L w ≤ d * 108) (hd : d ≤ 8) (hT : ∀ w, w ≤ X → g.1 98 (100 * (k + 1) + w) = Int32.ofNat (L w)) : gb_T (f_X11_leastBy sh g (Int32.ofNat k) (Int32.ofNat w) (Int32.ofNat m)) (fun o => o.2 = Int32.ofNat (cst (wN β k) (wG β k) L w m)) := by
  have hn := hw.1
  have hG := wG_b hw hk
  have hN := wN_b hw hk
  have p : m * wG β k ≤ 9 * 9 := Nat.mul_le_mul hmm hG
  have p2 : m * wN β k ≤ 9 * 12 := Nat.mul_le_mul hmm hN.2
  unfold f_X11_leastBy
  obtain ⟨o, eo, vo⟩ := gl_m (sh := sh) hw hm.1 hm.2 hk
  have F := w_X11_gladsOf eo
  refine gb_T.bs eo ?_
  rw [vo, wG_e hw hk, o_mul, show (100 : Int32) = Int32.ofNat 100 from rfl, o_mul, o_add]
  have e : (Int32.ofNat w - Int32.ofNat (m * wG β k)).toInt = (w : Int) - ((m * wG β k : Nat) : Int) := by
    rw [i_sub, o_int (by omega), o_int (by omega)] <;> rw [o_int (by omega), o_int (by omega)] <;> omega
  have fin : ∀ z : Nat, z = w - m * wG β k → gb_T (f_X11_leastBy_33 sh o.1 (Int32.ofNat k) (Int32.ofNat m) (Int32.ofNat z) (Int32.ofNat (100 * k + 100))) (fun o => o.2 = Int32.ofNat (cst (wN β k) (wG β k) L w m)) := by
    intro z hz
    have e98 : o.1.1 98 (100 * k + 100 + z) = Int32.ofNat (L (w - m * wG β k)) := by
      rw [(F 98 _ (by omega)).1, show 100 * k + 100 + z = 100 * (k + 1) + z by omega, hT z (by omega), hz]
    have hLz := hL (w - m * wG β k)
    unfold f_X11_leastBy_33 cst
    rw [o_add, gb_ck_s (o_in (by omega) (by omega)), o_cl (by omega), e98]
    by_cases q : L (w - m * wG β k) = 100000000
    · rw [if_pos q, if_pos (by rw [q]; rfl)]
      exact ⟨_, rfl, rfl⟩
    · rcases hLz with z1 | z1
      · exact absurd z1 q
      · rw [if_neg q, if_neg (show ¬ Int32.ofNat (L (w - m * wG β k)) = 100000000 from fun y => q (o_inj (j := 100000000) (by omega) (by omega) y)), show (8 : Int32) = Int32.ofNat 8 from rfl, o_add, gb_ck_s (o_in (by omega) (by omega)), o_cl (by omega), (F 79 _ (by omega)).1, (hm.1.2.1 k hk).2.1, wN_e hw hk, o_mul, o_add]
        exact ⟨_, rfl, rfl⟩
  by_cases q : m * wG β k ≤ w
  · rw [if_pos (by rw [Int32.le_iff_toInt_le, e, Int32.toInt_zero]; omega), a_sub q]
    exact fin _ rfl
  · rw [if_neg (by rw [Int32.le_iff_toInt_le, e, Int32.toInt_zero]; omega)]
    exact fin 0 (by omega)
theorem mo_m {sh : List gb_Sh} {g : gb_G} {β : ms_B} {k : Nat} (hw : wfB β) (hm : mR g β) (hk : k < bN β) : gb_T (f_X11_mostOf sh g (Int32.ofNat k)) (fun o => o.2 = Int32.ofNat (wMo β k)) := by
  have hn := hw.1
  unfold f_X11_mostOf wMo
  rw [show (16 : Int32) = Int32.ofNat 16 from rfl, o_add, gb_ck_s (o_in (by omega) (by omega)), o_cl (by omega), (hm.1.2.1 k hk).2.2.2.2.2.1]
  by_cases q : bT β k 5 = 1
  · rw [if_pos q, if_pos (Or.inl q)]; exact ⟨_, rfl, rfl⟩
  · rw [if_neg q]
    obtain ⟨o, eo, vo⟩ := ba_m (sh := sh) hw hm.1 hm.2 hk
    refine gb_T.bs eo ?_
    rw [vo]
    rcases as3_01 (β := β) (i := k) (o := ms_tl β (ms_lw β (bF β)) k 3) with z | z
    · rw [if_pos z, if_neg (fun y => by
        rcases y with y | y
        · exact q y
        · rw [z] at y; exact absurd y (by decide))]
      exact ⟨_, rfl, rfl⟩
    · rw [if_neg (by rw [z]; decide), if_pos (Or.inr z)]
      exact ⟨_, rfl, rfl⟩
def mvTb (g : gb_G) (n X j : Nat) (N G M : Nat → Nat) : Prop := ∀ k, j ≤ k → k ≤ n → ∀ w, w ≤ X → g.1 98 (100 * k + w) = Int32.ofNat (LD n N G M (n - k) w)
theorem lB {sh : List gb_Sh} {g : gb_G} {β : ms_B} {k w m X : Nat} (hw : wfB β) (hm : mR g β) (hk : k < bN β) (hX : X ≤ 99) (hwX : w ≤ X) (hmm : m ≤ 9) (hT : mvTb g (bN β) X (k + 1) (wN β) (wG β) (wMo β)) : gb_T (f_X11_leastBy sh g (Int32.ofNat k) (Int32.ofNat w) (Int32.ofNat m)) (fun o => o.2 = Int32.ofNat (cst (wN β k) (wG β k) (LD (bN β) (wN β) (wG β) (wMo β) (bN β - 1 - k)) w m) ∧ mR o.1 β ∧ ∀ j, o.1.1 98 j = g.1 98 j) := by
  have hn := hw.1
  obtain ⟨o, e, v⟩ := lb_m (sh := sh) (L := LD (bN β) (wN β) (wG β) (wMo β) (bN β - 1 - k)) (d := bN β - 1 - k) hw hm hk hX hwX hmm (LD_b (wfG_of hw) _ (by omega)) (by omega) (fun w hw' => by
    rw [hT (k + 1) (Nat.le_refl _) (by omega) w hw', show bN β - (k + 1) = bN β - 1 - k by omega])
  have F := w_X11_leastBy e
  exact ⟨o, e, v, mR_fr hw hm F (fun k => by omega) (by omega), fun j => (F 98 j (by omega)).1⟩
theorem gl_112 {sh : List gb_Sh} {β : ms_B} {k w X : Nat} {y2 : Int32} {K : gb_G → Int32 → Int32 → Int32 → Int32 → Int32 → Option (gb_G × Int32)} {P : gb_G × Int32 → Prop} (hw : wfB β) (hk : k < bN β) (hX : X ≤ 99) (hwX : w ≤ X)
    (hK : ∀ g, mR g β → mvTb g (bN β) X (k + 1) (wN β) (wG β) (wMo β) → (∀ v, v < w + 1 → g.1 98 (100 * k + v) = Int32.ofNat (LD (bN β) (wN β) (wG β) (wMo β) (bN β - k) v)) → gb_T (K g (Int32.ofNat X) y2 (Int32.ofNat k) (Int32.ofNat (wMo β k)) (Int32.ofNat (w + 1))) P) : ∀ (m j fuel : Nat) (g : gb_G), j + m = wMo β k + 1 → m < fuel → mR g β → mvTb g (bN β) X (k + 1) (wN β) (wG β) (wMo β) → (∀ v, v < w → g.1 98 (100 * k + v) = Int32.ofNat (LD (bN β) (wN β) (wG β) (wMo β) (bN β - k) v)) → gb_T (f_X11_glad_112 sh K fuel g (Int32.ofNat X) y2 (Int32.ofNat k) (Int32.ofNat (wMo β k)) (Int32.ofNat w) (Int32.ofNat (mnv (cst (wN β k) (wG β k) (LD (bN β) (wN β) (wG β) (wMo β) (bN β - 1 - k)) w) j)) (Int32.ofNat j)) P := by
  have hn := hw.1
  have hM : wMo β k ≤ 9 := ((wfG_of hw).2 k hk).2.2.2
  have hN := wN_b hw hk
  have hLb := LD_b (wfG_of hw) (bN β - 1 - k) (by omega)
  have hcb : ∀ i, i ≤ 9 → cst (wN β k) (wG β k) (LD (bN β) (wN β) (wG β) (wMo β) (bN β - 1 - k)) w i = 100000000 ∨ cst (wN β k) (wG β k) (LD (bN β) (wN β) (wG β) (wMo β) (bN β - 1 - k)) w i ≤ 972 := fun i hi => cst_b hLb (by omega) hN.2 hi
  intro m
  induction m with
  | zero =>
    intro j fuel g h hf hm hT hv
    obtain ⟨f, rfl⟩ : ∃ f, fuel = f + 1 := ⟨fuel - 1, by omega⟩
    have e : j = wMo β k + 1 := by omega
    subst e
    rw [f_X11_glad_112, if_pos (by rw [o_lt (by omega) (by omega)]; omega), show (100 : Int32) = Int32.ofNat 100 from rfl, o_mul, o_add, gb_ck_s (o_in (by omega) (by omega)), gb_let_s, o_cl (by omega), o_succ, mn_fm _ (fun i hi => by have := hcb i (by omega); omega)]
    refine hK _ ⟨mvB_fr hm.1 hw fun k _ => pi_n (by omega), (pi_n (by omega)).trans hm.2⟩ (fun k' h1 h2 v hv' => (pi_n (by omega)).trans (hT k' h1 h2 v hv')) (fun v hv' => ?_)
    by_cases ev : v = w
    · rw [ev, pi_e, LD_s hk]; rfl
    · rw [pi_n (by omega)]; exact hv v (by omega)
  | succ m ih =>
    intro j fuel g h hf hm hT hv
    obtain ⟨f, rfl⟩ : ∃ f, fuel = f + 1 := ⟨fuel - 1, by omega⟩
    rw [f_X11_glad_112, if_neg (by rw [o_lt (by omega) (by omega)]; omega)]
    obtain ⟨o, e, v, hm1, h98⟩ := lB (sh := sh) (w := w) (m := j) hw hm hk hX hwX (by omega) hT
    refine gb_T.bs e ?_
    unfold f_X11_glad_145
    simp only []
    rw [v, o_succ]
    have ih2 := ih (j + 1) f o.1 (by omega) (by omega) hm1 (fun k' h1 h2 v hv' => (h98 _).trans (hT k' h1 h2 v hv')) (fun v hv' => (h98 _).trans (hv v hv'))
    rw [mnv] at ih2
    have mb : mnv (cst (wN β k) (wG β k) (LD (bN β) (wN β) (wG β) (wMo β) (bN β - 1 - k)) w) j ≤ 100000000 := by
      cases j with
      | zero => exact Nat.le_refl _
      | succ i =>
        rw [mn_fm _ (fun q hq => by have := hcb q (by omega); omega)]
        have := fm_le (c := cst (wN β k) (wG β k) (LD (bN β) (wN β) (wG β) (wMo β) (bN β - 1 - k)) w) i
        have := hcb (fmi (cst (wN β k) (wG β k) (LD (bN β) (wN β) (wG β) (wMo β) (bN β - 1 - k)) w) i) (by omega)
        omega
    have cb := hcb j (by omega)
    by_cases q : cst (wN β k) (wG β k) (LD (bN β) (wN β) (wG β) (wMo β) (bN β - 1 - k)) w j < mnv (cst (wN β k) (wG β k) (LD (bN β) (wN β) (wG β) (wMo β) (bN β - 1 - k)) w) j
    · rw [if_neg (by rw [o_le (by omega) (by omega)]; omega)]
      rw [if_pos q] at ih2
      exact ih2
    · rw [if_pos (by rw [o_le (by omega) (by omega)]; omega)]
      rw [if_neg q] at ih2
      exact ih2
theorem gl_98 {sh : List gb_Sh} {β : ms_B} {k X : Nat} {y2 : Int32} {K : gb_G → Int32 → Int32 → Int32 → Option (gb_G × Int32)} {P : gb_G × Int32 → Prop} (hw : wfB β) (hk : k < bN β) (hX : X ≤ 99) (hK : ∀ g, mR g β → mvTb g (bN β) X k (wN β) (wG β) (wMo β) → gb_T (K g (Int32.ofNat X) y2 (Int32.ofNat k + (-1))) P) : ∀ (m w fuel : Nat) (g : gb_G), w + m = X + 1 → m < fuel → mR g β → mvTb g (bN β) X (k + 1) (wN β) (wG β) (wMo β) → (∀ v, v < w → g.1 98 (100 * k + v) = Int32.ofNat (LD (bN β) (wN β) (wG β) (wMo β) (bN β - k) v)) → gb_T (f_X11_glad_98 sh K fuel g (Int32.ofNat X) y2 (Int32.ofNat k) (Int32.ofNat (wMo β k)) (Int32.ofNat w)) P := by
  have hM : wMo β k ≤ 9 := ((wfG_of hw).2 k hk).2.2.2
  intro m
  induction m with
  | zero =>
    intro w fuel g h hf hm hT hv
    obtain ⟨f, rfl⟩ : ∃ f, fuel = f + 1 := ⟨fuel - 1, by omega⟩
    rw [f_X11_glad_98, if_pos (by rw [o_lt (by omega) (by omega)]; omega)]
    refine hK g hm fun k' h1 h2 v hv' => ?_
    by_cases e : k' = k
    · rw [e]; exact hv v (by omega)
    · exact hT k' (by omega) h2 v hv'
  | succ m ih =>
    intro w fuel g h hf hm hT hv
    obtain ⟨f, rfl⟩ : ∃ f, fuel = f + 1 := ⟨fuel - 1, by omega⟩
    rw [f_X11_glad_98, if_neg (by rw [o_lt (by omega) (by omega)]; omega)]
    exact gl_112 hw hk hX (by omega) (fun g' hm' hT' hv' => ih (w + 1) f g' (by omega) (by omega) hm' hT' hv') (wMo β k + 1) 0 gb_N g (by omega) (by unfold gb_N; omega) hm hT hv
theorem gl_237 {sh : List gb_Sh} {β : ms_B} {k w X : Nat} {y2 : Int32} {K : gb_G → Int32 → Int32 → Int32 → Int32 → Option (gb_G × Int32)} {P : gb_G × Int32 → Prop} (hw : wfB β) (hk : k < bN β) (hX : X ≤ 99) (hwX : w ≤ X) (hK : ∀ g, mR g β → mvTb g (bN β) X 0 (wN β) (wG β) (wMo β) → gb_T (K g y2 (Int32.ofNat (w - gA (bN β) (wN β) (wG β) (wMo β) k w * wG β k)) (Int32.ofNat (gA (bN β) (wN β) (wG β) (wMo β) k w)) (Int32.ofNat (k + 1))) P) : ∀ (m j fuel : Nat) (g : gb_G), j + m = gA (bN β) (wN β) (wG β) (wMo β) k w → m < fuel → mR g β → mvTb g (bN β) X 0 (wN β) (wG β) (wMo β) → gb_T (f_X11_glad_237 sh K fuel g y2 (Int32.ofNat w) (Int32.ofNat j) (Int32.ofNat k)) P := by
  have hn := hw.1
  have hM : wMo β k ≤ 9 := ((wfG_of hw).2 k hk).2.2.2
  have hN := wN_b hw hk
  have hG := wG_b hw hk
  have hA : gA (bN β) (wN β) (wG β) (wMo β) k w ≤ wMo β k := fm_le _
  have hLb := LD_b (wfG_of hw) (bN β - 1 - k) (by omega)
  have hcb : ∀ i, i ≤ 9 → cst (wN β k) (wG β k) (LD (bN β) (wN β) (wG β) (wMo β) (bN β - 1 - k)) w i = 100000000 ∨ cst (wN β k) (wG β k) (LD (bN β) (wN β) (wG β) (wMo β) (bN β - 1 - k)) w i ≤ 972 := fun i hi => cst_b hLb (by omega) hN.2 hi
  intro m
  induction m with
  | zero =>
    intro j fuel g h hf hm hT
    obtain ⟨f, rfl⟩ : ∃ f, fuel = f + 1 := ⟨fuel - 1, by omega⟩
    have e : j = gA (bN β) (wN β) (wG β) (wMo β) k w := by omega
    obtain ⟨o, eo, v, hm1, h98⟩ := lB (sh := sh) (w := w) (m := j) hw hm hk hX hwX (by omega) (fun k' h1 h2 => hT k' (by omega) h2)
    rw [f_X11_glad_237]
    refine gb_T.bs eo ?_
    rw [show (100 : Int32) = Int32.ofNat 100 from rfl, o_mul, o_add, gb_ck_s (o_in (by omega) (by omega)), o_cl (by omega), h98, hT k (by omega) (by omega) w hwX, v, LD_s hk, e, if_pos rfl]
    obtain ⟨o2, e2, v2⟩ := gl_m (sh := sh) hw hm1.1 hm1.2 hk
    have F := w_X11_gladsOf e2
    refine gb_T.bs e2 ?_
    have p : gA (bN β) (wN β) (wG β) (wMo β) k w * wG β k ≤ 9 * 9 := Nat.mul_le_mul (by omega) hG
    have ei : (Int32.ofNat w - Int32.ofNat (gA (bN β) (wN β) (wG β) (wMo β) k w * wG β k)).toInt = (w : Int) - ((gA (bN β) (wN β) (wG β) (wMo β) k w * wG β k : Nat) : Int) := by
      rw [i_sub, o_int (by omega), o_int (by omega)] <;> rw [o_int (by omega), o_int (by omega)] <;> omega
    have fin := hK o2.1 (mR_fr hw hm1 F (fun k => by omega) (by omega)) (fun k' h1 h2 v hv' => (F 98 _ (by omega)).1.trans ((h98 _).trans (hT k' h1 h2 v hv')))
    unfold f_X11_glad_294
    rw [v2, wG_e hw hk, o_mul, o_succ]
    by_cases q : gA (bN β) (wN β) (wG β) (wMo β) k w * wG β k ≤ w
    · rw [if_pos (by rw [Int32.le_iff_toInt_le, ei, Int32.toInt_zero]; omega), a_sub q]
      exact fin
    · rw [if_neg (by rw [Int32.le_iff_toInt_le, ei, Int32.toInt_zero]; omega)]
      rw [show w - gA (bN β) (wN β) (wG β) (wMo β) k w * wG β k = 0 by omega] at fin
      exact fin
  | succ m ih =>
    intro j fuel g h hf hm hT
    obtain ⟨f, rfl⟩ : ∃ f, fuel = f + 1 := ⟨fuel - 1, by omega⟩
    obtain ⟨o, eo, v, hm1, h98⟩ := lB (sh := sh) (w := w) (m := j) hw hm hk hX hwX (by omega) (fun k' h1 h2 => hT k' (by omega) h2)
    rw [f_X11_glad_237]
    refine gb_T.bs eo ?_
    have ff := fm_first (c := cst (wN β k) (wG β k) (LD (bN β) (wN β) (wG β) (wMo β) (bN β - 1 - k)) w) (wMo β k) j (by show j < gA (bN β) (wN β) (wG β) (wMo β) k w; omega)
    have c1 := hcb j (by omega)
    have c2 := hcb (gA (bN β) (wN β) (wG β) (wMo β) k w) (by omega)
    rw [show (100 : Int32) = Int32.ofNat 100 from rfl, o_mul, o_add, gb_ck_s (o_in (by omega) (by omega)), o_cl (by omega), h98, hT k (by omega) (by omega) w hwX, v, LD_s hk, if_neg (fun z => by
      have := o_inj (by omega) (by omega) z
      have ff' : cst (wN β k) (wG β k) (LD (bN β) (wN β) (wG β) (wMo β) (bN β - 1 - k)) w (gA (bN β) (wN β) (wG β) (wMo β) k w) < cst (wN β k) (wG β k) (LD (bN β) (wN β) (wG β) (wMo β) (bN β - 1 - k)) w j := ff
      omega), o_succ]
    exact ih (j + 1) f o.1 (by omega) (by omega) hm1 (fun k' h1 h2 v hv' => (h98 _).trans (hT k' h1 h2 v hv'))
theorem gl_228 {sh : List gb_Sh} {β : ms_B} {X t : Nat} (hw : wfB β) (hX : X ≤ 99) (ht : t ≤ bN β) (ht0 : 0 < t) : ∀ (m k fuel : Nat) (g : gb_G) (y5 : Int32), k + m = t → m < fuel → mR g β → mvTb g (bN β) X 0 (wN β) (wG β) (wMo β) → (0 < k → y5 = Int32.ofNat (gA (bN β) (wN β) (wG β) (wMo β) (k - 1) (gR (bN β) (wN β) (wG β) (wMo β) X (k - 1)))) → gb_T (f_X11_glad_228 sh fuel g (Int32.ofNat t) (Int32.ofNat (gR (bN β) (wN β) (wG β) (wMo β) X k)) y5 (Int32.ofNat k)) (fun o => o.2 = Int32.ofNat (gA (bN β) (wN β) (wG β) (wMo β) (t - 1) (gR (bN β) (wN β) (wG β) (wMo β) X (t - 1)))) := by
  have hn := hw.1
  intro m
  induction m with
  | zero =>
    intro k fuel g y5 h hf hm hT hy
    obtain ⟨f, rfl⟩ : ∃ f, fuel = f + 1 := ⟨fuel - 1, by omega⟩
    have e : k = t := by omega
    subst e
    rw [f_X11_glad_228, if_pos (Int32.le_refl _)]
    exact ⟨_, rfl, hy ht0⟩
  | succ m ih =>
    intro k fuel g y5 h hf hm hT hy
    obtain ⟨f, rfl⟩ : ∃ f, fuel = f + 1 := ⟨fuel - 1, by omega⟩
    have hM : wMo β k ≤ 9 := ((wfG_of hw).2 k (by omega)).2.2.2
    have hA : gA (bN β) (wN β) (wG β) (wMo β) k (gR (bN β) (wN β) (wG β) (wMo β) X k) ≤ wMo β k := fm_le _
    rw [f_X11_glad_228, if_neg (by rw [o_le (by omega) (by omega)]; omega)]
    exact gl_237 hw (by omega) hX (gR_b k) (fun g' hm' hT' => ih (k + 1) f g' _ (by omega) (by omega) hm' hT' (fun _ => rfl)) _ 0 gb_N g (Nat.zero_add _) (by unfold gb_N; omega) hm hT
noncomputable def gV (β : ms_B) (X t : Nat) : Int32 := if LD (bN β) (wN β) (wG β) (wMo β) (bN β) X = 100000000 then -1 else if t = 0 then Int32.ofNat (LD (bN β) (wN β) (wG β) (wMo β) (bN β) X) else Int32.ofNat (gA (bN β) (wN β) (wG β) (wMo β) (t - 1) (gR (bN β) (wN β) (wG β) (wMo β) X (t - 1)))
theorem gl_82 {sh : List gb_Sh} {β : ms_B} {X t : Nat} (hw : wfB β) (hX : X ≤ 99) (ht : t ≤ bN β) : ∀ (j fuel : Nat) (g : gb_G), j ≤ bN β → j < fuel → mR g β → mvTb g (bN β) X j (wN β) (wG β) (wMo β) → gb_T (f_X11_glad_82 sh fuel g (Int32.ofNat X) (Int32.ofNat t) (Int32.ofNat j - 1)) (fun o => o.2 = gV β X t) := by
  have hn := hw.1
  intro j
  induction j with
  | zero =>
    intro fuel g h hf hm hT
    obtain ⟨f, rfl⟩ : ∃ f, fuel = f + 1 := ⟨fuel - 1, by omega⟩
    have hx := hT 0 (by omega) (by omega) X (Nat.le_refl _)
    rw [show 100 * 0 + X = X by omega, Nat.sub_zero] at hx
    have hb := LD_b (wfG_of hw) (bN β) (Nat.le_refl _) X
    rw [f_X11_glad_82, if_pos (by decide), gb_ck_s (o_in (by omega) (by omega)), o_cl (by omega), hx]
    unfold gV
    by_cases q : LD (bN β) (wN β) (wG β) (wMo β) (bN β) X = 100000000
    · rw [if_pos q, if_pos (by rw [q]; rfl)]
      unfold f_X11_glad_196
      rw [gb_ck_s (o_in (by omega) (by omega)), o_cl (by omega), hx, if_pos (by rw [q]; rfl)]
      exact ⟨_, rfl, rfl⟩
    · have nq : ¬ Int32.ofNat (LD (bN β) (wN β) (wG β) (wMo β) (bN β) X) = 100000000 := fun y => q (o_inj (j := 100000000) (by omega) (by omega) y)
      rw [if_neg q, if_neg nq]
      by_cases q2 : t = 0
      · rw [if_pos q2, if_pos (by rw [q2]; rfl)]
        unfold f_X11_glad_196
        rw [gb_ck_s (o_in (by omega) (by omega)), o_cl (by omega), hx, if_neg nq, gb_ck_s (o_in (by omega) (by omega))]
        exact ⟨_, rfl, rfl⟩
      · rw [if_neg q2, if_neg (show ¬ Int32.ofNat t = 0 from fun z => q2 (o_inj (j := 0) (by omega) (by omega) z))]
        exact gl_228 hw hX ht (by omega) t 0 gb_N g 0 (by omega) (by unfold gb_N; omega) hm hT (fun z => by omega)
  | succ j ih =>
    intro fuel g h hf hm hT
    obtain ⟨f, rfl⟩ : ∃ f, fuel = f + 1 := ⟨fuel - 1, by omega⟩
    rw [f_X11_glad_82, o_pred, if_neg (by rw [show (0 : Int32) = Int32.ofNat 0 from rfl, o_lt (by omega) (by omega)]; omega)]
    obtain ⟨o, eo, vo⟩ := mo_m (sh := sh) hw hm (show j < bN β by omega)
    have F := w_X11_mostOf eo
    refine gb_T.bs eo ?_
    rw [vo]
    refine gl_98 hw (by omega) hX (fun g' hm' hT' => ?_) (X + 1) 0 gb_N o.1 (by omega) (by unfold gb_N; omega) (mR_fr hw hm F (fun k => by omega) (by omega)) (fun k' h1 h2 v hv' => (F 98 _ (by omega)).1.trans (hT k' h1 h2 v hv')) (fun v hv => by omega)
    rw [show Int32.ofNat j + (-1) = Int32.ofNat j - 1 from (Int32.sub_eq_add_neg _ _).symm]
    exact ih f g' (by omega) (by omega) hm' hT'
theorem gl_40 {sh : List gb_Sh} {β : ms_B} {X t : Nat} (hw : wfB β) (hX : X ≤ 99) (ht : t ≤ bN β) : ∀ (m w fuel : Nat) (g : gb_G), w + m = 100 → m < fuel → mR g β → (∀ v, v < w → g.1 98 (100 * bN β + v) = Int32.ofNat (LD (bN β) (wN β) (wG β) (wMo β) 0 v)) → gb_T (f_X11_glad_40 sh fuel g (Int32.ofNat X) (Int32.ofNat t) (Int32.ofNat (bN β)) (Int32.ofNat w)) (fun o => o.2 = gV β X t) := by
  have hn := hw.1
  intro m
  induction m with
  | zero =>
    intro w fuel g h hf hm hv
    obtain ⟨f, rfl⟩ : ∃ f, fuel = f + 1 := ⟨fuel - 1, by omega⟩
    have e : w = 100 := by omega
    subst e
    rw [f_X11_glad_40, if_pos (by decide)]
    refine gl_82 hw hX ht (bN β) gb_N g (Nat.le_refl _) (by unfold gb_N; omega) hm fun k' h1 h2 v hv' => ?_
    rw [show k' = bN β by omega, Nat.sub_self]
    exact hv v (by omega)
  | succ m ih =>
    intro w fuel g h hf hm hv
    obtain ⟨f, rfl⟩ : ∃ f, fuel = f + 1 := ⟨fuel - 1, by omega⟩
    rw [f_X11_glad_40, if_neg (by rw [show (100 : Int32) = Int32.ofNat 100 from rfl, o_le (by omega) (by omega)]; omega), show (100 : Int32) = Int32.ofNat 100 from rfl, o_mul, o_add]
    have fin : ∀ z : Nat, z = LD (bN β) (wN β) (wG β) (wMo β) 0 w → gb_T (f_X11_glad_70 sh (fun w w0 w1 w2 w3 => f_X11_glad_40 sh f w w0 w1 w2 w3) g (Int32.ofNat X) (Int32.ofNat t) (Int32.ofNat (bN β)) (Int32.ofNat w) (Int32.ofNat z) (Int32.ofNat (100 * bN β + w))) (fun o => o.2 = gV β X t) := by
      intro z hz
      unfold f_X11_glad_70
      rw [gb_ck_s (o_in (by omega) (by omega)), gb_let_s, o_cl (by omega), o_succ]
      refine ih (w + 1) f _ (by omega) (by omega) ⟨mvB_fr hm.1 hw fun k _ => pi_n (by omega), (pi_n (by omega)).trans hm.2⟩ (fun v hv' => ?_)
      by_cases ev : v = w
      · rw [ev, pi_e, hz]
      · rw [pi_n (by omega)]; exact hv v (by omega)
    by_cases q : w = 0
    · rw [if_pos (by rw [q]; rfl)]
      exact fin 0 (by rw [q]; rfl)
    · rw [if_neg (show ¬ Int32.ofNat w = 0 from fun z => q (o_inj (j := 0) (by omega) (by omega) z))]
      exact fin 100000000 (by rw [LD, if_neg q])
theorem p_glad : ps_glad gb_I := by
  intro sh g x1 x2 hI
  have h20 := hI.2.1.2
  obtain ⟨β, ⟨hw, hc, hm⟩, -⟩ := hI.2.2.2.2.2.2.2.2
  have hB : iB sh g β := ⟨hw, hc, hm⟩
  have hn := hw.1
  have hN : (Int32.ofNat (bN β)).toInt64.toInt = (bN β : Int) := by rw [j_of, o_int (by omega)]
  by_cases h1 : im 0 99 x1
  · by_cases h2 : im 0 (bN β) x2
    · have h1' := h1
      have h2' := h2
      obtain ⟨X, hX, rfl⟩ := o_of (n := 100) h1
      obtain ⟨t, ht, rfl⟩ := o_of (x := x2) (n := bN β + 1) (by rw [im] at *; omega)
      refine ro_b (f2 := fun g1 => f_X11_glad sh g1 _ _) (gV β X t) hI ?_ (fun o => w_X10_glad) (fun c k q => by unfold scr; omega) ?_ (fun g1 o => w_X11_glad) (fun c k q => by unfold scr; omega)
      · unfold f_X10_glad
        rw [within_t h1' rfl rfl, bt]
        simp only []
        rw [hc.1, within_t h2' rfl (o_int (by omega)), bt]
        obtain ⟨o, e, v, h65⟩ := chp (sh := sh) (X := X) hw hc (by omega)
        have hb := LD_b (wfG_of hw) (bN β) (Nat.le_refl _) X
        refine gb_T.bs e ?_
        rw [v]
        unfold gV
        by_cases q : LD (bN β) (wN β) (wG β) (wMo β) (bN β) X = 100000000
        · rw [if_pos q, if_pos q, if_pos rfl]; exact ⟨_, rfl, rfl⟩
        · rw [if_neg q, if_neg q, if_neg (o_ne1 (by omega))]
          by_cases q2 : t = 0
          · rw [if_pos q2, if_pos (by rw [q2]; rfl)]; exact ⟨_, rfl, rfl⟩
          · rw [if_neg q2, if_neg (show ¬ Int32.ofNat t = 0 from fun z => q2 (o_inj (j := 0) (by omega) (by omega) z))]
            unfold f_X6_amountOf
            have et : Int32.ofNat t - 1 = Int32.ofNat (t - 1) := by rw [show t = (t - 1) + 1 by omega, o_pred]; rfl
            rw [et, within_t (lo := 0) (hi := 7) (by rw [im, o_int (by omega)]; omega) rfl rfl, bt, gb_ck_s (o_in (by omega) (by omega)), o_cl (by omega), gb_bd_s]
            exact gb_T.sm (h65 (t - 1) (by omega))
      · intro g1 F1
        obtain ⟨-, -, hm1⟩ := iB_s hB F1
        have h20' : (gb_pi g1 77 0 0).1 77 20 = 0 := by
          rw [pi_n (by omega), (F1 77 20 (fun s => by unfold scr at s; omega)).1]; exact h20
        show gb_T (f_X11_glad sh g1 _ _) _
        unfold f_X11_glad
        rw [gb_let_s, in_t h1' rfl rfl, bt, r79, hm1.1, in_t h2' rfl hN, bt]
        exact gl_40 (g := gb_pi g1 77 0 0) hw (by omega) (by omega) 100 0 gb_N (by omega) (by unfold gb_N; omega) ⟨hm1, h20'⟩ (fun v hv => by omega)
    · refine ⟨(g, -1), (gb_pi g 77 0 0, -1), ?_, ?_, rfl, I770 hI⟩
      · unfold f_X10_glad
        rw [within_t h1 rfl rfl, bt]
        simp only []
        rw [hc.1, within_f h2 rfl (o_int (by omega)), bf]
      · show f_X11_glad sh g _ _ = _
        unfold f_X11_glad
        rw [gb_let_s, in_t h1 rfl rfl, bt, r79, hm.1, in_f h2 rfl hN, bf]
  · refine ⟨(g, -1), (gb_pi g 77 0 0, -1), ?_, ?_, rfl, I770 hI⟩
    · unfold f_X10_glad
      rw [within_f h1 rfl rfl, bf]
    · show f_X11_glad sh g _ _ = _
      unfold f_X11_glad
      rw [gb_let_s, in_f h1 rfl rfl, bf]
