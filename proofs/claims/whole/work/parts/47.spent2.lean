/-! ===== spent, ask: the reference, and both ===== -/
def mR (g : gb_G) (β : ms_B) : Prop := mvB (g.1 79) β ∧ g.1 77 20 = 0
theorem mR_fr {g g' : gb_G} {β : ms_B} {W : Nat → Nat → Prop} (hw : wfB β) (h : mR g β) (F : gb_Fr W g g') (h79 : ∀ k, ¬ W 79 k) (h20 : ¬ W 77 20) : mR g' β := ⟨mvB_fr h.1 hw fun k _ => (F 79 k (h79 k)).1, (F 77 20 h20).1.trans h.2⟩
theorem is_m {sh : List gb_Sh} {g : gb_G} {s i : Nat} (hs : s < 2147483648) (hi : i < 8) : f_X11_is sh g (Int32.ofNat s) (Int32.ofNat i) = some (g, Int32.ofNat (sb s i)) := by
  unfold f_X11_is
  rw [sb_e hs hi]
  rcases sb_01 s i with e | e
  · rw [e, if_neg (by decide)]; rfl
  · rw [e, if_pos (by decide)]; rfl
theorem ib_m {sh : List gb_Sh} {β : ms_B} {C G s : Nat} (hw : wfB β) (hC : C ≤ 99) (hG : G ≤ 99) (hs : s < 256) : ∀ (m k fuel : Nat) (g : gb_G), k + m = bN β → m < fuel → mR g β → gb_T (f_X11_isBought_12 sh fuel g (Int32.ofNat s) (Int32.ofNat C) (Int32.ofNat G) (Int32.ofNat (ss (wN β) s k)) (Int32.ofNat (ss (wG β) s k)) (if ss (wLk β) s k = 0 then 1 else 0) (Int32.ofNat k)) (fun o => (bou β C G s → o.2 = 1) ∧ (¬ bou β C G s → o.2 = 0)) := by
  have hn := hw.1
  intro m
  induction m with
  | zero =>
    intro k fuel g h hf hm
    obtain ⟨f, rfl⟩ : ∃ f, fuel = f + 1 := ⟨fuel - 1, by omega⟩
    have e : k = bN β := by omega
    subst e
    have b1 := ss_b (V := wN β) (s := s) (k := bN β) (M := 12) fun i hi => (wN_b hw hi).2
    have b2 := ss_b (V := wG β) (s := s) (k := bN β) (M := 9) fun i hi => wG_b hw hi
    rw [f_X11_isBought_12, if_pos (by rw [hm.1.1]; exact Int32.le_refl _)]
    by_cases q3 : ss (wLk β) s (bN β) = 0
    · rw [if_pos q3, if_neg (show ¬ (1 : Int32) = 0 by decide)]
      by_cases q1 : ss (wN β) s (bN β) = C
      · rw [if_pos (by rw [q1])]
        by_cases q2 : ss (wG β) s (bN β) = G
        · rw [if_pos (by rw [q2])]
          exact ⟨_, rfl, fun _ => rfl, fun z => absurd ⟨q1, q2, q3⟩ z⟩
        · rw [if_neg (fun z => q2 (o_inj (by omega) (by omega) z))]
          exact ⟨_, rfl, fun z => absurd z.2.1 q2, fun _ => rfl⟩
      · rw [if_neg (fun z => q1 (o_inj (by omega) (by omega) z))]
        exact ⟨_, rfl, fun z => absurd z.1 q1, fun _ => rfl⟩
    · rw [if_neg q3, if_pos rfl]
      exact ⟨_, rfl, fun z => absurd z.2.2 q3, fun _ => rfl⟩
  | succ m ih =>
    intro k fuel g h hf hm
    obtain ⟨f, rfl⟩ : ∃ f, fuel = f + 1 := ⟨fuel - 1, by omega⟩
    have hk : k < bN β := by omega
    obtain ⟨a0, a1, a2, a3, a4, a5, a6⟩ := hm.1.2.1 k hk
    rw [f_X11_isBought_12, if_neg (by rw [hm.1.1, o_le (by omega) (by omega)]; omega), is_m (by omega) (by omega), gb_bd_s]
    simp only []
    have ih1 := fun g hm => ih (k + 1) f g (by omega) (by omega) hm
    unfold f_X11_isBought_81 f_X11_isBought_83
    simp only []
    rcases sb_01 s k with e | e
    · rw [if_pos (by rw [e]; rfl), o_succ]
      have ih2 := ih1 g hm
      rw [ss_0 e, ss_0 e, ss_0 e] at ih2
      exact ih2
    · rw [if_neg (by rw [e]; decide), show (8 : Int32) = Int32.ofNat 8 from rfl, show (16 : Int32) = Int32.ofNat 16 from rfl, o_add, o_add, gb_ck_s (o_in (by omega) (by omega)), o_cl (by omega), o_cl (by omega)]
      obtain ⟨o, eo, vo⟩ := gl_m (sh := sh) hw hm.1 hm.2 hk
      have F := w_X11_gladsOf eo
      have hm1 := mR_fr hw hm F (fun k => by omega) (by omega)
      refine gb_T.bs eo ?_
      rw [gb_ck_s (o_in (by omega) (by omega)), a1, vo, wG_e hw hk, wN_e hw hk, o_add, o_add, o_succ, (F 79 (16 + k) (by omega)).1, a5, wLk_e hw hk]
      have ih2 := ih1 o.1 hm1
      rw [ss_1 e, ss_1 e, ss_1 e] at ih2
      have hl := wLk_b hw hk
      have hl' : wLk β k = 0 ∨ wLk β k = 1 := by omega
      by_cases z : ss (wLk β) s k = 0
      · rw [if_pos z, if_neg (show ¬ (1 : Int32) = 0 by decide)]
        rcases hl' with l | l
        · rw [if_pos (by rw [l]; rfl)]
          rw [l, if_pos (by omega)] at ih2
          exact ih2
        · rw [if_neg (by rw [l]; decide)]
          rw [l, if_neg (by omega)] at ih2
          exact ih2
      · rw [if_neg z, if_pos rfl]
        rw [if_neg (by omega)] at ih2
        exact ih2
theorem isb {sh : List gb_Sh} {g : gb_G} {β : ms_B} {C G s : Nat} (hw : wfB β) (hC : C ≤ 99) (hG : G ≤ 99) (hs : s < 256) (hm : mR g β) : gb_T (f_X11_isBought sh g (Int32.ofNat s) (Int32.ofNat C) (Int32.ofNat G)) (fun o => ((bou β C G s → o.2 = 1) ∧ (¬ bou β C G s → o.2 = 0)) ∧ mR o.1 β) := by
  obtain ⟨o, e, v⟩ := ib_m (sh := sh) hw hC hG hs (bN β) 0 gb_N g (by omega) (by have := hw.1; unfold gb_N; omega) hm
  have e' : f_X11_isBought sh g (Int32.ofNat s) (Int32.ofNat C) (Int32.ofNat G) = some o := e
  have F := w_X11_isBought e'
  exact ⟨o, e', v, mR_fr hw hm F (fun k => by omega) (by omega)⟩
noncomputable def pv (β : ms_B) (C G s : Nat) (y : Int32) : Int32 := if 0 ≤ y.toInt ∧ y.toInt.toNat < bc β C G s then Int32.ofNat (pn β C G y.toInt.toNat s) else -1
theorem pv_t {β : ms_B} {C G s : Nat} {y : Int32} (hs : s < 256) (h : bou β C G s) : pv β C G (s + 1) y = if Int32.ofNat (bc β C G s) = y then Int32.ofNat s else pv β C G s y := by
  have b3 := bc_b (β := β) (C := C) (G := G) s
  unfold pv
  rw [bc_t h]
  by_cases q : Int32.ofNat (bc β C G s) = y
  · rw [if_pos q, ← q, o_int (by omega), Int.toNat_natCast, if_pos ⟨by omega, by omega⟩, pn_t h]
  · rw [if_neg q]
    by_cases q2 : 0 ≤ y.toInt ∧ y.toInt.toNat < bc β C G s
    · rw [if_pos q2, if_pos ⟨q2.1, by omega⟩, pn_f (fun z => by omega)]
    · rw [if_neg q2, if_neg]
      intro z
      apply q2
      refine ⟨z.1, ?_⟩
      have : ¬ y.toInt.toNat = bc β C G s := fun x => q (by rw [← x]; exact on z.1)
      omega
theorem pv_f {β : ms_B} {C G s : Nat} {y : Int32} (h : ¬ bou β C G s) : pv β C G (s + 1) y = pv β C G s y := by
  unfold pv
  rw [bc_f h, pn_f (fun z => h z.1)]
theorem sp_m {sh : List gb_Sh} {β : ms_B} {C G : Nat} {y3 : Int32} (hw : wfB β) (hC : C ≤ 99) (hG : G ≤ 99) : ∀ (m s fuel : Nat) (g : gb_G), s + m = 2 ^ bN β → m < fuel → mR g β → gb_T (f_X11_spent_24 sh fuel g (Int32.ofNat C) (Int32.ofNat G) y3 (Int32.ofNat (bc β C G s)) (pv β C G s y3) (Int32.ofNat s)) (fun o => o.2 = if y3 = -1 then Int32.ofNat (bc β C G (2 ^ bN β)) else pv β C G (2 ^ bN β) y3) := by
  have hn := hw.1
  have hp := pw8 hn
  intro m
  induction m with
  | zero =>
    intro s fuel g h hf hm
    obtain ⟨f, rfl⟩ : ∃ f, fuel = f + 1 := ⟨fuel - 1, by omega⟩
    have e : s = 2 ^ bN β := by omega
    rw [f_X11_spent_24, hm.1.1, pw_e _ (by omega), if_pos (by rw [e]; exact Int32.le_refl _), e]
    by_cases q : y3 = -1
    · rw [if_pos q, if_pos q]; exact ⟨_, rfl, rfl⟩
    · rw [if_neg q, if_neg q]; exact ⟨_, rfl, rfl⟩
  | succ m ih =>
    intro s fuel g h hf hm
    obtain ⟨f, rfl⟩ : ∃ f, fuel = f + 1 := ⟨fuel - 1, by omega⟩
    have b3 := bc_b (β := β) (C := C) (G := G) s
    rw [f_X11_spent_24, hm.1.1, pw_e _ (by omega), if_neg (by rw [o_le (by omega) (by omega)]; omega)]
    obtain ⟨o, e, ⟨v1, v2⟩, hm1⟩ := isb (sh := sh) (s := s) hw hC hG (by omega) hm
    refine gb_T.bs e ?_
    unfold f_X11_spent_61 f_X11_spent_66
    simp only []
    rw [o_succ, o_succ]
    have ih2 := ih (s + 1) f o.1 (by omega) (by omega) hm1
    by_cases q : bou β C G s
    · rw [v1 q, if_neg (by decide)]
      rw [bc_t q, pv_t (by omega) q] at ih2
      by_cases q2 : Int32.ofNat (bc β C G s) = y3
      · rw [if_pos q2]; rw [if_pos q2] at ih2; exact ih2
      · rw [if_neg q2]; rw [if_neg q2] at ih2; exact ih2
    · rw [v2 q, if_pos rfl]
      rw [bc_f q, pv_f q] at ih2
      exact ih2
theorem ar_t {sh : List gb_Sh} {g : gb_G} {x y : Int32} (hx : im 0 99 x) (hy : im 0 99 y) : f_X11_areSpent sh g x y = some (g, 1) := by
  unfold f_X11_areSpent
  rw [in_t hx rfl rfl, bt, in_t hy rfl rfl, bt]
theorem ar_f {sh : List gb_Sh} {g : gb_G} {x y : Int32} (h : ¬ (im 0 99 x ∧ im 0 99 y)) : f_X11_areSpent sh g x y = some (g, 0) := by
  unfold f_X11_areSpent
  by_cases hx : im 0 99 x
  · rw [in_t hx rfl rfl, bt, in_f (fun z => h ⟨hx, z⟩) rfl rfl, bf]
  · rw [in_f hx rfl rfl, bf]
theorem sA_c {sh : List gb_Sh} {g : gb_G} {β : ms_B} {C G : Nat} {y : Int32} (hw : wfB β) (hS : cvS β C G (2 ^ bN β) g) : f_X6_setAt sh g y = some (g, pv β C G (2 ^ bN β) y) := by
  have hn := hw.1
  have hp := pw8 hn
  have b3 := bc_b (β := β) (C := C) (G := G) (2 ^ bN β)
  unfold f_X6_setAt
  have e : f_J9_min_7cf53 sh g 256 (g.1 63 12) = some (g, Int32.ofNat (bc β C G (2 ^ bN β))) := by
    unfold f_J9_min_7cf53
    rw [hS.1]
    by_cases q : bc β C G (2 ^ bN β) < 256
    · rw [if_pos (by rw [show (256 : Int32) = Int32.ofNat 256 from rfl, o_lt (by omega) (by omega)]; exact q)]
    · rw [if_neg (by rw [show (256 : Int32) = Int32.ofNat 256 from rfl, o_lt (by omega) (by omega)]; exact q), show bc β C G (2 ^ bN β) = 256 by omega]; rfl
  rw [e, gb_bd_s]
  simp only []
  unfold pv
  by_cases q : im 0 ((bc β C G (2 ^ bN β) : Int) - 1) y
  · have q' := q
    obtain ⟨i, hi, rfl⟩ := o_of q
    rw [within_t q' rfl (n_pred (by omega)), bt, gb_ck_s (o_in (by omega) (by omega)), o_cl (by omega), o_int (by omega), Int.toNat_natCast, if_pos ⟨by omega, hi⟩]
    simp only []
    rw [hS.2 i hi]
  · rw [within_f q rfl (n_pred (by omega)), bf, if_neg]
    intro z
    apply q
    rw [im]
    omega
theorem p_spent : ps_spent gb_I := by
  intro sh g x1 x2 x3 hI
  have h20 := hI.2.1.2
  obtain ⟨β, ⟨hw, hc, hm⟩, -⟩ := hI.2.2.2.2.2.2.2.2
  have hB : iB sh g β := ⟨hw, hc, hm⟩
  have hn := hw.1
  by_cases h : im 0 99 x1 ∧ im 0 99 x2
  · obtain ⟨h1, h2⟩ := h
    have h1' := h1
    have h2' := h2
    obtain ⟨C, hC, rfl⟩ := o_of (n := 100) h1
    obtain ⟨G, hG, rfl⟩ := o_of (n := 100) h2
    refine ro_b (f2 := fun g1 => f_X11_spent sh g1 _ _ _) (if x3 = -1 then Int32.ofNat (bc β C G (2 ^ bN β)) else pv β C G (2 ^ bN β) x3) hI ?_ (fun o => w_X10_spent) (fun c k q => by unfold scr; omega) ?_ (fun g1 o => w_X11_spent) (fun c k q => by unfold scr; omega)
    · unfold f_X10_spent
      rw [within_t h1' rfl rfl, bt, within_t h2' rfl rfl, bt]
      obtain ⟨o, e, v, hS⟩ := sk_c (sh := sh) (C := C) (G := G) hw (by omega) (by omega) hc
      refine gb_T.bs e ?_
      by_cases q : x3 = -1
      · rw [if_pos q, if_pos q]; exact gb_T.sm v
      · rw [if_neg q, if_neg q, sA_c hw hS, gb_bd_s]; exact gb_T.sm rfl
    · intro g1 F1
      obtain ⟨-, -, hm1⟩ := iB_s hB F1
      have h20' : (gb_pi g1 77 0 0).1 77 20 = 0 := by
        rw [pi_n (by omega), (F1 77 20 (fun s => by unfold scr at s; omega)).1]; exact h20
      show gb_T (f_X11_spent sh g1 _ _ _) _
      unfold f_X11_spent
      rw [gb_let_s, ar_t h1' h2', bt]
      have z := sp_m (sh := sh) (g := gb_pi g1 77 0 0) (C := C) (G := G) (y3 := x3) hw (by omega) (by omega) (2 ^ bN β) 0 gb_N (by omega) (by have := pw8 hn; unfold gb_N; omega) ⟨hm1, h20'⟩
      have e : pv β C G 0 x3 = -1 := by
        unfold pv
        rw [if_neg (fun q => Nat.not_lt_zero _ q.2)]
      rw [e] at z
      exact z
  · refine ⟨(g, -1), (gb_pi g 77 0 0, -1), ?_, ?_, rfl, I770 hI⟩
    · unfold f_X10_spent
      by_cases h1 : im 0 99 x1
      · rw [within_t h1 rfl rfl, bt, within_f (fun z => h ⟨h1, z⟩) rfl rfl, bf]
      · rw [within_f h1 rfl rfl, bf]
    · show f_X11_spent sh g _ _ _ = _
      unfold f_X11_spent
      rw [gb_let_s, ar_f h, bf]
/-! ask -/
noncomputable def wc (β : ms_B) (C G i : Nat) : Nat → Nat
  | 0 => 0
  | s + 1 => @ite _ (bou β C G s) (Classical.propDecidable _) (wc β C G i s + sb s i) (wc β C G i s)
theorem wc_t {β : ms_B} {C G s i : Nat} (h : bou β C G s) : wc β C G i (s + 1) = wc β C G i s + sb s i := by rw [wc, if_pos h]
theorem wc_f {β : ms_B} {C G s i : Nat} (h : ¬ bou β C G s) : wc β C G i (s + 1) = wc β C G i s := by rw [wc, if_neg h]
theorem wc_b {β : ms_B} {C G i : Nat} : ∀ s, wc β C G i s ≤ bc β C G s := by
  intro s
  induction s with
  | zero => exact Nat.le_refl _
  | succ s ih =>
    by_cases q : bou β C G s
    · rw [wc_t q, bc_t q]
      rcases sb_01 s i with e | e <;> omega
    · rw [wc_f q, bc_f q]; exact ih
theorem wc_e {β : ms_B} {C G i : Nat} : ∀ s, nsum (fun k => sb (pn β C G k s) i) (bc β C G s) = wc β C G i s := by
  intro s
  induction s with
  | zero => rfl
  | succ s ih =>
    by_cases q : bou β C G s
    · rw [wc_t q, bc_t q, nsum, pn_t q, ← ih]
      congr 1
      exact nsum_c _ fun k hk => by rw [pn_f (fun z => by omega)]
    · rw [wc_f q, bc_f q, ← ih]
      exact nsum_c _ fun k hk => by rw [pn_f (fun z => q z.1)]
theorem sw_c {sh : List gb_Sh} {g : gb_G} {β : ms_B} {C G i : Nat} (hw : wfB β) (hS : cvS β C G (2 ^ bN β) g) (hi : i < 8) : f_X6_setsWith sh g (Int32.ofNat i) = some (g, Int32.ofNat (wc β C G i (2 ^ bN β))) := by
  have hn := hw.1
  have hp := pw8 hn
  have b3 := bc_b (β := β) (C := C) (G := G) (2 ^ bN β)
  have K : ∀ (m k fuel : Nat), k + m = bc β C G (2 ^ bN β) → m < fuel → f_X6_setsWith_4 sh fuel g (Int32.ofNat i) (Int32.ofNat (nsum (fun k => sb (pn β C G k (2 ^ bN β)) i) k)) (Int32.ofNat k) = some (g, Int32.ofNat (nsum (fun k => sb (pn β C G k (2 ^ bN β)) i) (bc β C G (2 ^ bN β)))) := by
    intro m
    induction m with
    | zero =>
      intro k fuel h hf
      obtain ⟨f, rfl⟩ : ∃ f, fuel = f + 1 := ⟨fuel - 1, by omega⟩
      have e : k = bc β C G (2 ^ bN β) := by omega
      subst e
      rw [f_X6_setsWith_4, hS.1, if_pos (Int32.le_refl _)]
    | succ m ih =>
      intro k fuel h hf
      obtain ⟨f, rfl⟩ : ∃ f, fuel = f + 1 := ⟨fuel - 1, by omega⟩
      have b4 := pn_b (β := β) (C := C) (G := G) (i := k) (2 ^ bN β)
      rw [f_X6_setsWith_4, hS.1, if_neg (by rw [o_le (by omega) (by omega)]; omega), if_neg (by rw [show (256 : Int32) = Int32.ofNat 256 from rfl, o_le (by omega) (by omega)]; omega), gb_ck_s (o_in (by omega) (by omega)), o_cl (by omega), hS.2 k (by omega), sb_e (by omega) hi, o_add, o_succ]
      exact ih (k + 1) f (by omega) (by omega)
  have z := K (bc β C G (2 ^ bN β)) 0 gb_N (by omega) (by unfold gb_N; omega)
  rw [wc_e] at z
  exact z
noncomputable def aM (β : ms_B) (C G i : Nat) : Int32 := if wc β C G i (2 ^ bN β) < bc β C G (2 ^ bN β) - wc β C G i (2 ^ bN β) then Int32.ofNat (bc β C G (2 ^ bN β) - wc β C G i (2 ^ bN β)) else Int32.ofNat (wc β C G i (2 ^ bN β))
theorem aM_b {β : ms_B} {C G i : Nat} (hw : wfB β) : aM β C G i < 100000000 := by
  have hp := pw8 hw.1
  have b3 := bc_b (β := β) (C := C) (G := G) (2 ^ bN β)
  have b4 := wc_b (β := β) (C := C) (G := G) (i := i) (2 ^ bN β)
  unfold aM
  split <;> (rw [show (100000000 : Int32) = Int32.ofNat 100000000 from rfl, o_lt (by omega) (by omega)]; omega)
noncomputable def aV (β : ms_B) (C G : Nat) (x : Int32) : Int32 := if bc β C G (2 ^ bN β) = 0 ∨ bN β = 0 then -1 else if x = 0 then (ms_fb (aM β C G) (bN β)).1 else (ms_fb (aM β C G) (bN β)).2
theorem a_sub {a b : Nat} (h : b ≤ a) : Int32.ofNat a - Int32.ofNat b = Int32.ofNat (a - b) := pk_sub h
theorem ak_c {sh : List gb_Sh} {g : gb_G} {β : ms_B} {C G : Nat} {x : Int32} (hw : wfB β) (hc : cvB sh g 1 β) (hS : cvS β C G (2 ^ bN β) g) (hx : im 0 1 x) : gb_T (f_X10_ask_55 sh gb_N g x (Int32.ofNat (bc β C G (2 ^ bN β))) (-1) (-1) 0) (fun o => o.2 = aV β C G x) := by
  have hn := hw.1
  have hp := pw8 hn
  have b3 := bc_b (β := β) (C := C) (G := G) (2 ^ bN β)
  unfold aV
  by_cases q : bc β C G (2 ^ bN β) = 0 ∨ bN β = 0
  · rw [if_pos q, show gb_N = 999999 + 1 from rfl, f_X10_ask_55]
    have e : gb_T (f_X10_ask_122 sh g x (-1) (-1)) (fun o => o.2 = -1) := by
      unfold f_X10_ask_122
      split <;> exact ⟨_, rfl, rfl⟩
    by_cases q0 : bN β = 0
    · rw [if_pos (by rw [hc.1, q0]; decide)]; exact e
    · rcases q with q | q
      · rw [if_neg (by rw [hc.1, show (0 : Int32) = Int32.ofNat 0 from rfl, o_le (by omega) (by omega)]; omega), if_pos (by rw [q]; decide)]; exact e
      · exact absurd q q0
  · rw [if_neg q]
    have K : ∀ (m k fuel : Nat), k + m = bN β → m < fuel → f_X10_ask_55 sh fuel g x (Int32.ofNat (bc β C G (2 ^ bN β))) (ms_fb (aM β C G) k).1 (if k = 0 then -1 else (ms_fb (aM β C G) k).2) (Int32.ofNat k) = some (g, if x = 0 then (ms_fb (aM β C G) (bN β)).1 else (ms_fb (aM β C G) (bN β)).2) := by
      intro m
      induction m with
      | zero =>
        intro k fuel h hf
        obtain ⟨f, rfl⟩ : ∃ f, fuel = f + 1 := ⟨fuel - 1, by omega⟩
        have e : k = bN β := by omega
        subst e
        rw [f_X10_ask_55, if_pos (by rw [hc.1]; exact Int32.le_refl _), if_neg (show ¬ bN β = 0 from fun z => q (Or.inr z))]
        unfold f_X10_ask_122
        by_cases c : x = 0
        · rw [if_pos c, if_pos c]
        · rw [if_neg c, if_neg c]
      | succ m ih =>
        intro k fuel h hf
        obtain ⟨f, rfl⟩ : ∃ f, fuel = f + 1 := ⟨fuel - 1, by omega⟩
        have b4 := wc_b (β := β) (C := C) (G := G) (i := k) (2 ^ bN β)
        rw [f_X10_ask_55, if_neg (by rw [hc.1, o_le (by omega) (by omega)]; omega), if_neg (by rw [show (0 : Int32) = Int32.ofNat 0 from rfl, o_le (by omega) (by omega)]; omega), sw_c hw hS (by omega), gb_bd_s]
        simp only []
        have mx : f_J9_max_7cf53 sh g (Int32.ofNat (wc β C G k (2 ^ bN β))) (Int32.ofNat (bc β C G (2 ^ bN β)) - Int32.ofNat (wc β C G k (2 ^ bN β))) = some (g, aM β C G k) := by
          unfold f_J9_max_7cf53 aM
          rw [a_sub b4]
          by_cases z : wc β C G k (2 ^ bN β) < bc β C G (2 ^ bN β) - wc β C G k (2 ^ bN β)
          · rw [if_pos z, if_pos (by rw [o_lt (by omega) (by omega)]; exact z)]
          · rw [if_neg z, if_neg (by rw [o_lt (by omega) (by omega)]; exact z)]
        rw [mx, gb_bd_s]
        simp only []
        unfold f_X10_ask_108 f_X10_ask_116
        simp only []
        rw [o_succ]
        have ih2 := ih (k + 1) f (by omega) (by omega)
        rw [if_neg (by omega), ms_fb] at ih2
        by_cases ek : k = 0
        · subst ek
          rw [if_pos (show (ms_fb (aM β C G) 0).1 = -1 from rfl)]
          rw [ms_fb, if_pos (show aM β C G 0 < ((-1, 100000000) : Int32 × Int32).2 from aM_b hw)] at ih2
          exact ih2
        · obtain ⟨j, hj, qq⟩ := ms_fb_j (aM β C G) (aM_b hw) k (by omega)
          have q2 : ¬ (ms_fb (aM β C G) k).1 = -1 := by rw [qq]; exact o_ne1 (by omega)
          rw [if_neg q2, if_neg ek]
          by_cases c : aM β C G k < (ms_fb (aM β C G) k).2
          · rw [if_neg (by rw [Int32.le_iff_toInt_le]; rw [Int32.lt_iff_toInt_lt] at c; omega)]
            rw [if_pos c] at ih2
            exact ih2
          · rw [if_pos (by rw [Int32.le_iff_toInt_le]; rw [Int32.lt_iff_toInt_lt] at c; omega)]
            rw [if_neg c] at ih2
            exact ih2
    have z := K (bN β) 0 gb_N (by omega) (by unfold gb_N; omega)
    exact ⟨_, z, rfl⟩
theorem ak_140 {sh : List gb_Sh} {g : gb_G} {β : ms_B} {C G : Nat} {x : Int32} (hw : wfB β) (hm : mR g β) (hS : ∀ i, i < 8 → g.1 100 i = Int32.ofNat (wc β C G i (2 ^ bN β))) (hx : im 0 1 x) : gb_T (f_X11_ask_140 sh gb_N g x (Int32.ofNat (bc β C G (2 ^ bN β))) 100000000 (-1) 0) (fun o => o.2 = aV β C G x) := by
  have hn := hw.1
  have hp := pw8 hn
  have b3 := bc_b (β := β) (C := C) (G := G) (2 ^ bN β)
  unfold aV
  by_cases q : bc β C G (2 ^ bN β) = 0 ∨ bN β = 0
  · rw [if_pos q, show gb_N = 999999 + 1 from rfl, f_X11_ask_140]
    have e : gb_T (f_X11_ask_236 sh g x 100000000 (-1)) (fun o => o.2 = -1) := by
      unfold f_X11_ask_236
      rw [if_pos rfl]
      exact ⟨_, rfl, rfl⟩
    by_cases q0 : bN β = 0
    · rw [if_pos (by rw [hm.1.1, q0]; decide)]; exact e
    · rcases q with q | q
      · rw [if_neg (by rw [hm.1.1, show (0 : Int32) = Int32.ofNat 0 from rfl, o_le (by omega) (by omega)]; omega), if_pos (by rw [q]; decide)]; exact e
      · exact absurd q q0
  · rw [if_neg q]
    have K : ∀ (m k fuel : Nat), k + m = bN β → m < fuel → f_X11_ask_140 sh fuel g x (Int32.ofNat (bc β C G (2 ^ bN β))) (ms_fb (aM β C G) k).2 (ms_fb (aM β C G) k).1 (Int32.ofNat k) = some (g, if x = 0 then (ms_fb (aM β C G) (bN β)).1 else (ms_fb (aM β C G) (bN β)).2) := by
      intro m
      induction m with
      | zero =>
        intro k fuel h hf
        obtain ⟨f, rfl⟩ : ∃ f, fuel = f + 1 := ⟨fuel - 1, by omega⟩
        have e : k = bN β := by omega
        subst e
        obtain ⟨j, hj, qq⟩ := ms_fb_j (aM β C G) (aM_b hw) (bN β) (by omega)
        have q2 : ¬ (ms_fb (aM β C G) (bN β)).1 = -1 := by rw [qq]; exact o_ne1 (by omega)
        rw [f_X11_ask_140, if_pos (by rw [hm.1.1]; exact Int32.le_refl _)]
        unfold f_X11_ask_236
        rw [if_neg q2]
        by_cases c : x = 0
        · rw [if_pos c, if_pos c]
        · rw [if_neg c, if_neg c]
      | succ m ih =>
        intro k fuel h hf
        obtain ⟨f, rfl⟩ : ∃ f, fuel = f + 1 := ⟨fuel - 1, by omega⟩
        have b4 := wc_b (β := β) (C := C) (G := G) (i := k) (2 ^ bN β)
        have ih2 := ih (k + 1) f (by omega) (by omega)
        rw [ms_fb] at ih2
        have k196 : ∀ z : Int32, z = aM β C G k → f_X11_ask_196 sh (fun w w0 w1 w2 w3 w4 => f_X11_ask_140 sh f w w0 w1 w2 w3 w4) g x (Int32.ofNat (bc β C G (2 ^ bN β))) (ms_fb (aM β C G) k).2 (ms_fb (aM β C G) k).1 (Int32.ofNat k) z = some (g, if x = 0 then (ms_fb (aM β C G) (bN β)).1 else (ms_fb (aM β C G) (bN β)).2) := by
          intro z hz
          subst hz
          unfold f_X11_ask_196 f_X11_ask_212 f_X11_ask_228
          rw [o_succ]
          by_cases c : aM β C G k < (ms_fb (aM β C G) k).2
          · have c' : ¬ (ms_fb (aM β C G) k).2 ≤ aM β C G k := by rw [Int32.le_iff_toInt_le]; rw [Int32.lt_iff_toInt_lt] at c; omega
            rw [if_neg c', if_neg c']
            rw [if_pos c] at ih2
            exact ih2
          · have c' : (ms_fb (aM β C G) k).2 ≤ aM β C G k := by rw [Int32.le_iff_toInt_le]; rw [Int32.lt_iff_toInt_lt] at c; omega
            rw [if_pos c', if_pos c']
            rw [if_neg c] at ih2
            exact ih2
        rw [f_X11_ask_140, if_neg (by rw [hm.1.1, o_le (by omega) (by omega)]; omega), if_neg (by rw [show (0 : Int32) = Int32.ofNat 0 from rfl, o_le (by omega) (by omega)]; omega), gb_ck_s (o_in (by omega) (by omega)), gb_ck_s (o_in (by omega) (by omega)), gb_ck_s (o_in (by omega) (by omega)), gb_ck_s (o_in (by omega) (by omega)), o_cl (by omega), hS k (by omega), a_sub b4]
        by_cases z : wc β C G k (2 ^ bN β) ≤ bc β C G (2 ^ bN β) - wc β C G k (2 ^ bN β)
        · rw [if_pos (by rw [o_le (by omega) (by omega)]; exact z)]
          refine k196 _ ?_
          unfold aM
          by_cases z2 : wc β C G k (2 ^ bN β) < bc β C G (2 ^ bN β) - wc β C G k (2 ^ bN β)
          · rw [if_pos z2]
          · rw [if_neg z2, show bc β C G (2 ^ bN β) - wc β C G k (2 ^ bN β) = wc β C G k (2 ^ bN β) by omega]
        · rw [if_neg (by rw [o_le (by omega) (by omega)]; exact z)]
          refine k196 _ ?_
          unfold aM
          rw [if_neg (by omega)]
    have z := K (bN β) 0 gb_N (by omega) (by unfold gb_N; omega)
    exact ⟨_, z, rfl⟩
theorem ak_85 {sh : List gb_Sh} {β : ms_B} {C G s : Nat} {y1 y2 y3 y4 : Int32} {K : gb_G → Int32 → Int32 → Int32 → Int32 → Int32 → Option (gb_G × Int32)} {P : gb_G × Int32 → Prop} (hw : wfB β) (hs : s < 256) (hK : ∀ g', mR g' β → (∀ i, i < 8 → g'.1 100 i = Int32.ofNat (wc β C G i s + sb s i)) → gb_T (K g' y1 y2 y3 y4 (Int32.ofNat s)) P) : ∀ (m k fuel : Nat) (g : gb_G), k + m = 8 → m < fuel → mR g β → (∀ i, i < k → g.1 100 i = Int32.ofNat (wc β C G i s + sb s i)) → (∀ i, k ≤ i → i < 8 → g.1 100 i = Int32.ofNat (wc β C G i s)) → gb_T (f_X11_ask_85 sh K fuel g y1 y2 y3 y4 (Int32.ofNat s) (Int32.ofNat k)) P := by
  intro m
  induction m with
  | zero =>
    intro k fuel g h hf hm h1 h2
    obtain ⟨f, rfl⟩ : ∃ f, fuel = f + 1 := ⟨fuel - 1, by omega⟩
    have e : k = 8 := by omega
    subst e
    rw [f_X11_ask_85, if_pos (by decide)]
    exact hK g hm h1
  | succ m ih =>
    intro k fuel g h hf hm h1 h2
    obtain ⟨f, rfl⟩ : ∃ f, fuel = f + 1 := ⟨fuel - 1, by omega⟩
    rw [f_X11_ask_85, if_neg (by rw [show (8 : Int32) = Int32.ofNat 8 from rfl, o_le (by omega) (by omega)]; omega), gb_ck_s (o_in (by omega) (by omega)), is_m (by omega) (by omega), gb_bd_s, o_cl (by omega), h2 k (by omega) (by omega)]
    have fin : gb_T (f_X11_ask_115 sh (fun w w0 w1 w2 w3 w4 w5 => f_X11_ask_85 sh K f w w0 w1 w2 w3 w4 w5) g y1 y2 y3 y4 (Int32.ofNat s) (Int32.ofNat k) (Int32.ofNat (sb s k)) (Int32.ofNat (wc β C G k s)) (Int32.ofNat k)) P := by
      unfold f_X11_ask_115
      rw [gb_ck_s (o_in (by omega) (by omega)), gb_let_s, o_cl (by omega), o_add, o_succ]
      refine ih (k + 1) f _ (by omega) (by omega) ⟨mvB_fr hm.1 hw fun k _ => pi_n (by omega), (pi_n (by omega)).trans hm.2⟩ (fun i hi => ?_) (fun i h3 h4 => (pi_n (by omega)).trans (h2 i (by omega) h4))
      by_cases ei : i = k
      · rw [ei, pi_e]
      · rw [pi_n (by omega)]; exact h1 i (by omega)
    simp only []
    rcases sb_01 s k with e | e
    · rw [if_pos (by rw [e]; rfl)]
      rw [e] at fin
      exact fin
    · rw [if_neg (by rw [e]; decide)]
      rw [e] at fin
      exact fin
theorem ak_55 {sh : List gb_Sh} {β : ms_B} {C G : Nat} {x : Int32} (hw : wfB β) (hC : C ≤ 99) (hG : G ≤ 99) (hx : im 0 1 x) : ∀ (m s fuel : Nat) (g : gb_G), s + m = 2 ^ bN β → m < fuel → mR g β → (∀ i, i < 8 → g.1 100 i = Int32.ofNat (wc β C G i s)) → gb_T (f_X11_ask_55 sh fuel g (Int32.ofNat C) (Int32.ofNat G) x (Int32.ofNat (bc β C G s)) (Int32.ofNat s)) (fun o => o.2 = aV β C G x) := by
  have hn := hw.1
  have hp := pw8 hn
  intro m
  induction m with
  | zero =>
    intro s fuel g h hf hm hS
    obtain ⟨f, rfl⟩ : ∃ f, fuel = f + 1 := ⟨fuel - 1, by omega⟩
    have e : s = 2 ^ bN β := by omega
    rw [f_X11_ask_55, hm.1.1, pw_e _ (by omega), if_pos (by rw [e]; exact Int32.le_refl _), e]
    rw [e] at hS
    exact ak_140 hw hm hS hx
  | succ m ih =>
    intro s fuel g h hf hm hS
    obtain ⟨f, rfl⟩ : ∃ f, fuel = f + 1 := ⟨fuel - 1, by omega⟩
    rw [f_X11_ask_55, hm.1.1, pw_e _ (by omega), if_neg (by rw [o_le (by omega) (by omega)]; omega)]
    obtain ⟨o, e, ⟨v1, v2⟩, hm1⟩ := isb (sh := sh) (s := s) hw hC hG (by omega) hm
    have F := w_X11_isBought e
    refine gb_T.bs e ?_
    unfold f_X11_ask_123
    rw [o_succ]
    by_cases q : bou β C G s
    · rw [v1 q, if_neg (by decide), o_succ]
      refine ak_85 (C := C) (G := G) hw (by omega) (fun g' hm' h' => ?_) 8 0 gb_N o.1 (by omega) (by unfold gb_N; omega) hm1 (fun i hi => by omega) (fun i _ hi => (F 100 i (by omega)).1.trans (hS i hi))
      simp only []
      rw [o_succ]
      have ih2 := ih (s + 1) f g' (by omega) (by omega) hm' (fun i hi => by rw [wc_t q]; exact h' i hi)
      rw [bc_t q] at ih2
      exact ih2
    · rw [v2 q, if_pos rfl]
      have ih2 := ih (s + 1) f o.1 (by omega) (by omega) hm1 (fun i hi => by rw [wc_f q]; exact (F 100 i (by omega)).1.trans (hS i hi))
      rw [bc_f q] at ih2
      exact ih2
theorem ak_28 {sh : List gb_Sh} {β : ms_B} {C G : Nat} {x : Int32} (hw : wfB β) (hC : C ≤ 99) (hG : G ≤ 99) (hx : im 0 1 x) : ∀ (m k fuel : Nat) (g : gb_G), k + m = 8 → m < fuel → mR g β → (∀ i, i < k → g.1 100 i = 0) → gb_T (f_X11_ask_28 sh fuel g (Int32.ofNat C) (Int32.ofNat G) x (Int32.ofNat k)) (fun o => o.2 = aV β C G x) := by
  intro m
  induction m with
  | zero =>
    intro k fuel g h hf hm h1
    obtain ⟨f, rfl⟩ : ∃ f, fuel = f + 1 := ⟨fuel - 1, by omega⟩
    have e : k = 8 := by omega
    subst e
    rw [f_X11_ask_28, if_pos (by decide)]
    exact ak_55 hw hC hG hx (2 ^ bN β) 0 gb_N g (by omega) (by have := pw8 hw.1; unfold gb_N; omega) hm fun i hi => h1 i hi
  | succ m ih =>
    intro k fuel g h hf hm h1
    obtain ⟨f, rfl⟩ : ∃ f, fuel = f + 1 := ⟨fuel - 1, by omega⟩
    rw [f_X11_ask_28, if_neg (by rw [show (8 : Int32) = Int32.ofNat 8 from rfl, o_le (by omega) (by omega)]; omega), gb_ck_s (o_in (by omega) (by omega)), gb_let_s, o_cl (by omega), o_succ]
    refine ih (k + 1) f _ (by omega) (by omega) ⟨mvB_fr hm.1 hw fun k _ => pi_n (by omega), (pi_n (by omega)).trans hm.2⟩ (fun i hi => ?_)
    by_cases ei : i = k
    · rw [ei, pi_e]
    · rw [pi_n (by omega)]; exact h1 i (by omega)
theorem p_ask : ps_ask gb_I := by
  intro sh g x1 x2 x3 hI
  have h20 := hI.2.1.2
  obtain ⟨β, ⟨hw, hc, hm⟩, -⟩ := hI.2.2.2.2.2.2.2.2
  have hB : iB sh g β := ⟨hw, hc, hm⟩
  have hn := hw.1
  by_cases h : im 0 99 x1 ∧ im 0 99 x2
  · by_cases h3 : im 0 1 x3
    · obtain ⟨h1, h2⟩ := h
      have h1' := h1
      have h2' := h2
      obtain ⟨C, hC, rfl⟩ := o_of (n := 100) h1
      obtain ⟨G, hG, rfl⟩ := o_of (n := 100) h2
      refine ro_b (f2 := fun g1 => f_X11_ask sh g1 _ _ _) (aV β C G x3) hI ?_ (fun o => w_X10_ask) (fun c k q => by unfold scr; omega) ?_ (fun g1 o => w_X11_ask) (fun c k q => by unfold scr; omega)
      · unfold f_X10_ask
        rw [within_t h1' rfl rfl, bt, within_t h2' rfl rfl, bt, within_t h3 rfl rfl, bt]
        obtain ⟨o, e, v, hS⟩ := sk_c (sh := sh) (C := C) (G := G) hw (by omega) (by omega) hc
        have F := w_X6_seekSets e
        refine gb_T.bs e ?_
        rw [v]
        exact ak_c hw (cvB_fr hc fun c k q => F c k (by omega)) hS h3
      · intro g1 F1
        obtain ⟨-, -, hm1⟩ := iB_s hB F1
        have h20' : (gb_pi g1 77 0 0).1 77 20 = 0 := by
          rw [pi_n (by omega), (F1 77 20 (fun s => by unfold scr at s; omega)).1]; exact h20
        show gb_T (f_X11_ask sh g1 _ _ _) _
        unfold f_X11_ask
        rw [gb_let_s, ar_t h1' h2', bt, in_t h3 rfl rfl, bt]
        exact ak_28 (g := gb_pi g1 77 0 0) hw (by omega) (by omega) h3 8 0 gb_N (by omega) (by unfold gb_N; omega) ⟨hm1, h20'⟩ (fun i hi => by omega)
    · refine ⟨(g, -1), (gb_pi g 77 0 0, -1), ?_, ?_, rfl, I770 hI⟩
      · unfold f_X10_ask
        rw [within_t h.1 rfl rfl, bt, within_t h.2 rfl rfl, bt, within_f h3 rfl rfl, bf]
      · show f_X11_ask sh g _ _ _ = _
        unfold f_X11_ask
        rw [gb_let_s, ar_t h.1 h.2, bt, in_f h3 rfl rfl, bf]
  · refine ⟨(g, -1), (gb_pi g 77 0 0, -1), ?_, ?_, rfl, I770 hI⟩
    · unfold f_X10_ask
      by_cases h1 : im 0 99 x1
      · rw [within_t h1 rfl rfl, bt, within_f (fun z => h ⟨h1, z⟩) rfl rfl, bf]
      · rw [within_f h1 rfl rfl, bf]
    · show f_X11_ask sh g _ _ _ = _
      unfold f_X11_ask
      rw [gb_let_s, ar_f h, bf]
