/-! ===== spent, ask ===== -/
noncomputable def wN (β : ms_B) (i : Nat) : Nat := (bT β i 1).toInt.toNat
noncomputable def wG (β : ms_B) (i : Nat) : Nat := (ms_as β (ms_tl β (ms_lw β (bF β)) i 2) i 2).toInt.toNat
noncomputable def wLk (β : ms_B) (i : Nat) : Nat := (bT β i 5).toInt.toNat
noncomputable def wMo (β : ms_B) (i : Nat) : Nat := if bT β i 5 = 1 ∨ ms_as β (ms_tl β (ms_lw β (bF β)) i 3) i 3 = 1 then 0 else 9
theorem as2_im {β : ms_B} {i : Nat} {o : Option Int32} (hw : wfB β) (hi : i < bN β) : im 0 9 (ms_as β o i 2) := by
  cases o with
  | none => rw [as2_n]; exact (hw.2.2.2.2.2.2.1 i hi).2.2.2.1
  | some v => rw [as2_s]; exact near_im rfl rfl (by omega)
theorem as3_01 {β : ms_B} {i : Nat} {o : Option Int32} : ms_as β o i 3 = 0 ∨ ms_as β o i 3 = 1 := by
  cases o with
  | none => exact Or.inl rfl
  | some v => exact Or.inr rfl
theorem wG_e {β : ms_B} {i : Nat} (hw : wfB β) (hi : i < bN β) : ms_as β (ms_tl β (ms_lw β (bF β)) i 2) i 2 = Int32.ofNat (wG β i) := (on (as2_im hw hi).1).symm
theorem wG_b {β : ms_B} {i : Nat} (hw : wfB β) (hi : i < bN β) : wG β i ≤ 9 := on_b (M := 9) (as2_im hw hi)
theorem wN_e {β : ms_B} {i : Nat} (hw : wfB β) (hi : i < bN β) : bT β i 1 = Int32.ofNat (wN β i) := (on (Int.le_trans (by omega) (hw.2.2.2.2.2.2.1 i hi).2.1.1)).symm
theorem wN_b {β : ms_B} {i : Nat} (hw : wfB β) (hi : i < bN β) : 1 ≤ wN β i ∧ wN β i ≤ 12 := by
  have h := (hw.2.2.2.2.2.2.1 i hi).2.1
  unfold wN
  rw [im] at h
  omega
theorem wLk_e {β : ms_B} {i : Nat} (hw : wfB β) (hi : i < bN β) : bT β i 5 = Int32.ofNat (wLk β i) := (on (hw.2.2.2.2.2.2.1 i hi).2.2.2.2.2.1.1).symm
theorem wLk_b {β : ms_B} {i : Nat} (hw : wfB β) (hi : i < bN β) : wLk β i ≤ 1 := on_b (M := 1) (hw.2.2.2.2.2.2.1 i hi).2.2.2.2.2.1
def cvW (g : gb_G) (n : Nat) (N G M : Nat → Nat) : Prop := ∀ i, i < n → g.1 66 i = Int32.ofNat (N i) ∧ g.1 67 i = Int32.ofNat (G i) ∧ g.1 68 i = Int32.ofNat (M i)
theorem lk_c {sh : List gb_Sh} {g : gb_G} {b i : Nat} {β : ms_B} (hw : wfB β) (hc : cvB sh g b β) (hi : i < bN β) : f_X0_lacks sh g b (Int32.ofNat i) = some (g, Int32.ofNat (wLk β i)) := by
  unfold f_X0_lacks
  rw [rd_t (y := 5) (j := 5) hw hc rfl hi rfl (by omega), gb_bd_s]
  simp only []
  rcases im_01 (hw.2.2.2.2.2.2.1 i hi).2.2.2.2.2.1 with e | e
  · rw [if_neg (by rw [e]; decide), ← wLk_e hw hi, e]
  · rw [if_pos e, ← wLk_e hw hi, e]
theorem lW_7 {sh : List gb_Sh} {b : Nat} {β : ms_B} {q2 : Option Nat} (hb : b + 5 < 53) (hw : wfB β) : ∀ (m k fuel : Nat) (g : gb_G), k + m = bN β → m < fuel → cvB sh g b β → lq sh g q2 (ms_lw β (bF β)) → (∀ i, i < k → g.1 66 i = Int32.ofNat (wN β i) ∧ g.1 67 i = Int32.ofNat (wG β i) ∧ g.1 68 i = Int32.ofNat (wMo β i)) → gb_T (f_X6_loadWares_7 sh b fuel g q2 (Int32.ofNat k)) (fun o => cvW o (bN β) (wN β) (wG β) (wMo β)) := by
  have hn := hw.1
  intro m
  induction m with
  | zero =>
    intro k fuel g h hf hc hL hk
    obtain ⟨f, rfl⟩ : ∃ f, fuel = f + 1 := ⟨fuel - 1, by omega⟩
    have e : k = bN β := by omega
    subst e
    rw [f_X6_loadWares_7, if_pos (by rw [hc.1]; exact Int32.le_refl _)]
    exact ⟨_, rfl, hk⟩
  | succ m ih =>
    intro k fuel g h hf hc hL hk
    obtain ⟨f, rfl⟩ : ∃ f, fuel = f + 1 := ⟨fuel - 1, by omega⟩
    have q : k < bN β := by omega
    rw [f_X6_loadWares_7, if_neg (by rw [hc.1, o_le (by omega) (by omega)]; omega), if_neg (by rw [show (8 : Int32) = Int32.ofNat 8 from rfl, o_le (by omega) (by omega)]; omega), rd_t (y := 1) (j := 1) hw hc rfl q rfl (by omega), gb_bd_s, gb_ck_s (o_in (by omega) (by omega)), o_cl (by omega), gb_let_s]
    simp only []
    have hc1 : cvB sh (gb_pi g 66 k (bT β k 1)) b β := cvB_fr hc fun c k q => ⟨pi_n (by omega), rfl, rfl⟩
    have hL1 : lq sh (gb_pi g 66 k (bT β k 1)) q2 (ms_lw β (bF β)) := lq_fr hL fun c k q => ⟨pi_n (by omega), rfl, rfl⟩
    obtain ⟨o, e, v⟩ := tell_c (sh := sh) (kd := 2) hb hw hc1 q (by omega) hL1
    have F := w_X4_tell e
    refine gb_T.bs e ?_
    rw [gb_ck_s (o_in (by omega) (by omega)), gb_let_s, v]
    obtain ⟨g2, hg2⟩ : ∃ z, z = gb_pi o.1 67 k (ms_as β (ms_tl β (ms_lw β (bF β)) k 2) k 2) := ⟨_, rfl⟩
    rw [← hg2]
    have F2 : gb_Fr (fun c k => c = 53 ∨ c = 55 ∨ c = 66 ∨ c = 67) g g2 := by
      rw [hg2]
      exact (gb_Fr.tr (gb_Fr.rf.p2 (by omega)) (F.up fun c k q => by omega)).p2 (by omega)
    have hc2 : cvB sh g2 b β := cvB_fr hc fun c k q => F2 c k (by omega)
    have hL2 : lq sh g2 q2 (ms_lw β (bF β)) := lq_fr hL fun c k q => F2 c k (by omega)
    have e66 : g2.1 66 k = Int32.ofNat (wN β k) := by rw [hg2, pi_n (by omega), (F 66 k (by omega)).1, pi_e, wN_e hw q]
    have e67 : g2.1 67 k = Int32.ofNat (wG β k) := by rw [hg2, pi_e, wG_e hw q]
    have old : ∀ i, i < k → g2.1 66 i = Int32.ofNat (wN β i) ∧ g2.1 67 i = Int32.ofNat (wG β i) ∧ g2.1 68 i = Int32.ofNat (wMo β i) := fun i hi => by
      rw [hg2, pi_n (by omega), pi_n (by omega), pi_n (by omega), (F 66 i (by omega)).1, (F 67 i (by omega)).1, (F 68 i (by omega)).1, pi_n (by omega), pi_n (by omega), pi_n (by omega)]
      exact hk i hi
    have fin : ∀ (g3 : gb_G) (M : Nat), gb_Fr (fun c k => c = 53 ∨ c = 55) g2 g3 → M = wMo β k → gb_T (f_X6_loadWares_95 sh b (fun w w0 w1 => f_X6_loadWares_7 sh b f w w0 w1) g3 q2 (Int32.ofNat k) (Int32.ofNat M) (Int32.ofNat k)) (fun o => cvW o (bN β) (wN β) (wG β) (wMo β)) := by
      intro g3 M F3 hM
      unfold f_X6_loadWares_95
      rw [gb_ck_s (o_in (by omega) (by omega)), gb_let_s, o_cl (by omega), o_succ]
      refine ih (k + 1) f _ (by omega) (by omega) (cvB_fr hc2 fun c k q => ?_) (lq_fr hL2 fun c k q => ?_) fun i hi => ?_
      · have z := F3 c k (by omega)
        exact ⟨(pi_n (by omega)).trans z.1, z.2.1, z.2.2⟩
      · have z := F3 c k (by omega)
        exact ⟨(pi_n (by omega)).trans z.1, z.2.1, z.2.2⟩
      · rw [pi_n (by omega), pi_n (by omega), (F3 66 i (by omega)).1, (F3 67 i (by omega)).1]
        by_cases ei : i = k
        · rw [ei, pi_e, hM]; exact ⟨e66, e67, rfl⟩
        · rw [pi_n (by omega), (F3 68 i (by omega)).1]; exact old i (by omega)
    have fin77 : ∀ (g3 : gb_G) (z0 : Int32), gb_Fr (fun c k => c = 53 ∨ c = 55) g2 g3 → ((z0 = 0 ∧ wMo β k = 0) ∨ (z0 = 1 ∧ wMo β k = 9)) → gb_T (f_X6_loadWares_77 sh b (fun w w0 w1 => f_X6_loadWares_7 sh b f w w0 w1) g3 q2 (Int32.ofNat k) z0) (fun o => cvW o (bN β) (wN β) (wG β) (wMo β)) := by
      intro g3 z0 F3 hz
      unfold f_X6_loadWares_77
      rcases hz with ⟨z1, z2⟩ | ⟨z1, z2⟩
      · rw [if_pos z1]; exact fin g3 0 F3 z2.symm
      · rw [if_neg (by rw [z1]; decide)]; exact fin g3 9 F3 z2.symm
    rw [lk_c hw hc2 q, gb_bd_s]
    simp only []
    rcases im_01 (hw.2.2.2.2.2.2.1 k q).2.2.2.2.2.1 with e5 | e5
    · rw [if_pos (by rw [← wLk_e hw q]; exact e5)]
      obtain ⟨o3, e3, v3⟩ := tell_c (sh := sh) (kd := 3) hb hw hc2 q (by omega) hL2
      have F3 := w_X4_tell e3
      refine gb_T.bs e3 ?_
      rw [v3]
      rcases as3_01 (β := β) (i := k) (o := ms_tl β (ms_lw β (bF β)) k 3) with z | z
      · rw [if_pos z]
        refine fin77 o3.1 1 F3 (Or.inr ⟨rfl, ?_⟩)
        unfold wMo
        rw [if_neg (fun y => by
          rcases y with y | y
          · rw [e5] at y; exact absurd y (by decide)
          · rw [z] at y; exact absurd y (by decide))]
      · rw [if_neg (by rw [z]; decide)]
        refine fin77 o3.1 0 F3 (Or.inl ⟨rfl, ?_⟩)
        unfold wMo
        rw [if_pos (Or.inr z)]
    · rw [if_neg (by rw [← wLk_e hw q, e5]; decide)]
      refine fin77 g2 0 gb_Fr.rf (Or.inl ⟨rfl, ?_⟩)
      unfold wMo
      rw [if_pos (Or.inl e5)]
theorem lW {sh : List gb_Sh} {g : gb_G} {β : ms_B} (hw : wfB β) (hc : cvB sh g 1 β) : gb_T (f_X6_loadWares sh g 1) (fun o => cvW o (bN β) (wN β) (wG β) (wMo β)) := by
  obtain ⟨q2, e2, hL⟩ := lif_c hw hc
  unfold f_X6_loadWares
  rw [e2, gb_bd_s]
  exact lW_7 (by omega) hw (bN β) 0 gb_N g (by omega) (by have := hw.1; unfold gb_N; omega) hc hL fun i hi => by omega
/-! sets of GOODS as numbers -/
def sb (s i : Nat) : Nat := s / 2 ^ i % 2
theorem sb_01 (s i : Nat) : sb s i = 0 ∨ sb s i = 1 := by
  have : sb s i < 2 := Nat.mod_lt _ (by omega)
  omega
theorem sh_am : ∀ i, i < 8 → ((Int32.ofNat i &&& 31).toBitVec.smod 32).toNat = i := by decide +kernel
theorem sb_e {s i : Nat} (hs : s < 2147483648) (hi : i < 8) : (Int32.ofNat s >>> (Int32.ofNat i &&& 31)) &&& 1 = Int32.ofNat (sb s i) := by
  have e1 : Int32.ofNat s >>> (Int32.ofNat i &&& 31) = Int32.ofNat (s / 2 ^ i) := pk_shrN hs _ i (sh_am i hi)
  rw [e1]
  have h2 : s / 2 ^ i ≤ s := Nat.div_le_self _ _
  have e2 : Int32.ofNat (s / 2 ^ i) &&& 1 = Int32.ofNat (s / 2 ^ i % 2 ^ 1) := pk_andN (by omega) 1 (by decide)
  rw [e2]
  rfl
theorem pw_e : ∀ n, n < 9 → (1 : Int32) <<< (Int32.ofNat n &&& 31) = Int32.ofNat (2 ^ n) := by decide +kernel
theorem pw8 {n : Nat} (h : n ≤ 8) : 1 ≤ 2 ^ n ∧ 2 ^ n ≤ 256 := by
  have : n = 0 ∨ n = 1 ∨ n = 2 ∨ n = 3 ∨ n = 4 ∨ n = 5 ∨ n = 6 ∨ n = 7 ∨ n = 8 := by omega
  rcases this with rfl | rfl | rfl | rfl | rfl | rfl | rfl | rfl | rfl <;> decide
def ss (V : Nat → Nat) (s k : Nat) : Nat := nsum (fun i => sb s i * V i) k
theorem ss_1 {V : Nat → Nat} {s k : Nat} (h : sb s k = 1) : ss V s (k + 1) = ss V s k + V k := by
  unfold ss
  rw [nsum, h, Nat.one_mul]
theorem ss_0 {V : Nat → Nat} {s k : Nat} (h : sb s k = 0) : ss V s (k + 1) = ss V s k := by
  unfold ss
  rw [nsum, h, Nat.zero_mul, Nat.add_zero]
theorem ss_b {V : Nat → Nat} {s k M : Nat} (h : ∀ i, i < k → V i ≤ M) : ss V s k ≤ k * M := nsum_b k fun i hi => by
  rcases sb_01 s i with e | e
  · rw [e, Nat.zero_mul]; exact Nat.zero_le _
  · rw [e, Nat.one_mul]; exact h i hi
noncomputable def bou (β : ms_B) (C G s : Nat) : Prop := ss (wN β) s (bN β) = C ∧ ss (wG β) s (bN β) = G ∧ ss (wLk β) s (bN β) = 0
noncomputable def bc (β : ms_B) (C G : Nat) : Nat → Nat
  | 0 => 0
  | s + 1 => @ite _ (bou β C G s) (Classical.propDecidable _) (bc β C G s + 1) (bc β C G s)
noncomputable def pn (β : ms_B) (C G i : Nat) : Nat → Nat
  | 0 => 0
  | s + 1 => @ite _ (bou β C G s ∧ bc β C G s = i) (Classical.propDecidable _) s (pn β C G i s)
theorem bc_t {β : ms_B} {C G s : Nat} (h : bou β C G s) : bc β C G (s + 1) = bc β C G s + 1 := by rw [bc, if_pos h]
theorem bc_f {β : ms_B} {C G s : Nat} (h : ¬ bou β C G s) : bc β C G (s + 1) = bc β C G s := by rw [bc, if_neg h]
theorem pn_t {β : ms_B} {C G s : Nat} (h : bou β C G s) : pn β C G (bc β C G s) (s + 1) = s := by rw [pn, if_pos ⟨h, rfl⟩]
theorem pn_f {β : ms_B} {C G s i : Nat} (h : ¬ (bou β C G s ∧ bc β C G s = i)) : pn β C G i (s + 1) = pn β C G i s := by rw [pn, if_neg h]
theorem bc_b {β : ms_B} {C G : Nat} : ∀ s, bc β C G s ≤ s := by
  intro s
  induction s with
  | zero => exact Nat.le_refl _
  | succ s ih =>
    by_cases q : bou β C G s
    · rw [bc_t q]; omega
    · rw [bc_f q]; omega
theorem pn_b {β : ms_B} {C G i : Nat} : ∀ s, pn β C G i s ≤ s := by
  intro s
  induction s with
  | zero => exact Nat.le_refl _
  | succ s ih =>
    by_cases q : bou β C G s ∧ bc β C G s = i
    · rw [pn, if_pos q]; omega
    · rw [pn_f q]; omega
/-- the class' row of sets, up to s -/
def cvS (β : ms_B) (C G s : Nat) (g : gb_G) : Prop := g.1 63 12 = Int32.ofNat (bc β C G s) ∧ ∀ i, i < bc β C G s → g.1 72 i = Int32.ofNat (pn β C G i s)
theorem sub_0 {a b : Nat} (ha : a < 1000000) (hb : b < 1000000) : Int32.ofNat a - Int32.ofNat b = 0 ↔ b = a := by
  constructor
  · intro z
    have := congrArg Int32.toInt z
    rw [i_sub, o_int (by omega), o_int (by omega), Int32.toInt_zero] at this
    · omega
    · rw [o_int (by omega), o_int (by omega)]; omega
    · rw [o_int (by omega), o_int (by omega)]; omega
  · intro z; rw [z, Int32.sub_self]
theorem sk_55 {sh : List gb_Sh} {g : gb_G} {β : ms_B} {C G s : Nat} {K : gb_G → Int32 → Int32 → Int32 → Int32 → Option (gb_G × Int32)} {P : gb_G × Int32 → Prop} (hw : wfB β) (hC : C ≤ 99) (hG : G ≤ 99) (hs : s < 256) (hc : cvB sh g 1 β) (hW : cvW g (bN β) (wN β) (wG β) (wMo β)) (hS : cvS β C G s g) (hK : ∀ g', gb_Fr (fun c k => c = 63 ∨ c = 72) g g' → cvS β C G (s + 1) g' → gb_T (K g' (Int32.ofNat C) (Int32.ofNat G) (Int32.ofNat (bN β)) (Int32.ofNat (s + 1))) P) : ∀ (m k fuel : Nat), k + m = bN β → m < fuel → gb_T (f_X6_seekSets_55 sh 1 K fuel g (Int32.ofNat C) (Int32.ofNat G) (Int32.ofNat (bN β)) (Int32.ofNat s) (Int32.ofNat C - Int32.ofNat (ss (wN β) s k)) (Int32.ofNat G - Int32.ofNat (ss (wG β) s k)) (if ss (wLk β) s k = 0 then 1 else 0) (Int32.ofNat k)) P := by
  have hn := hw.1
  intro m
  induction m with
  | zero =>
    intro k fuel h hf
    obtain ⟨f, rfl⟩ : ∃ f, fuel = f + 1 := ⟨fuel - 1, by omega⟩
    have e : k = bN β := by omega
    subst e
    have b1 := ss_b (V := wN β) (s := s) (k := bN β) (M := 12) fun i hi => (wN_b hw hi).2
    have b2 := ss_b (V := wG β) (s := s) (k := bN β) (M := 9) fun i hi => wG_b hw hi
    have b3 := bc_b (β := β) (C := C) (G := G) s
    have b4 := pn_b (β := β) (C := C) (G := G) (i := bc β C G s) (s + 1)
    rw [f_X6_seekSets_55, if_pos (Int32.le_refl _)]
    unfold f_X6_seekSets_158
    rw [o_succ]
    have no : ¬ bou β C G s → gb_T (K g (Int32.ofNat C) (Int32.ofNat G) (Int32.ofNat (bN β)) (Int32.ofNat (s + 1))) P := fun q => by
      refine hK g gb_Fr.rf ⟨by rw [bc_f q]; exact hS.1, fun i hi => ?_⟩
      rw [bc_f q] at hi
      rw [pn_f (fun z => q z.1)]
      exact hS.2 i hi
    by_cases q3 : ss (wLk β) s (bN β) = 0
    · rw [if_pos q3, if_neg (show ¬ (1 : Int32) = 0 by decide)]
      by_cases q1 : ss (wN β) s (bN β) = C
      · rw [if_pos ((sub_0 (by omega) (by omega)).2 q1)]
        by_cases q2 : ss (wG β) s (bN β) = G
        · rw [if_pos ((sub_0 (by omega) (by omega)).2 q2), hS.1, gb_ck_s (o_in (by omega) (by omega)), gb_let_s, gb_let_s, o_cl (by omega), pi_n (by omega), hS.1, o_succ]
          have q : bou β C G s := ⟨q1, q2, q3⟩
          refine hK _ ((gb_Fr.rf.p2 (by omega)).p2 (by omega)) ⟨by rw [pi_e, bc_t q], fun i hi => ?_⟩
          rw [bc_t q] at hi
          rw [pi_n (by omega)]
          by_cases ei : i = bc β C G s
          · rw [ei, pi_e, pn_t q]
          · rw [pi_n (by omega), pn_f (fun z => ei z.2.symm)]; exact hS.2 i (by omega)
        · rw [if_neg (fun z => q2 ((sub_0 (by omega) (by omega)).1 z))]
          exact no fun z => q2 z.2.1
      · rw [if_neg (fun z => q1 ((sub_0 (by omega) (by omega)).1 z))]
        exact no fun z => q1 z.1
    · rw [if_neg q3, if_pos rfl]
      exact no fun z => q3 z.2.2
  | succ m ih =>
    intro k fuel h hf
    obtain ⟨f, rfl⟩ : ∃ f, fuel = f + 1 := ⟨fuel - 1, by omega⟩
    have hk : k < bN β := by omega
    have ih2 := ih (k + 1) f (by omega) (by omega)
    rw [f_X6_seekSets_55, if_neg (by rw [o_le (by omega) (by omega)]; omega), sb_e (by omega) (by omega)]
    rcases sb_01 s k with e | e
    · rw [if_neg (by rw [e]; decide)]
      unfold f_X6_seekSets_116
      rw [o_succ]
      rw [ss_0 e, ss_0 e, ss_0 e] at ih2
      exact ih2
    · rw [if_pos (by rw [e]; rfl), gb_ck_s (o_in (by omega) (by omega)), gb_ck_s (o_in (by omega) (by omega)), o_cl (by omega), lk_c hw hc hk, gb_bd_s]
      simp only []
      rw [(hW k hk).1, (hW k hk).2.1]
      unfold f_X6_seekSets_113 f_X6_seekSets_116
      simp only []
      rw [o_succ, Int32.sub_sub, Int32.sub_sub, o_add, o_add]
      rw [ss_1 e, ss_1 e, ss_1 e] at ih2
      have hl := wLk_b hw hk
      have hl' : wLk β k = 0 ∨ wLk β k = 1 := by omega
      rcases hl' with l | l
      · rw [if_pos (by rw [l]; rfl)]
        rw [l, Nat.add_zero] at ih2
        by_cases z : ss (wLk β) s k = 0
        · rw [if_pos z]; rw [if_pos z] at ih2; exact ih2
        · rw [if_neg z]; rw [if_neg z] at ih2; exact ih2
      · rw [if_neg (by rw [l]; decide)]
        rw [l, if_neg (by omega)] at ih2
        by_cases z : ss (wLk β) s k = 0
        · rw [if_pos z]; exact ih2
        · rw [if_neg z]; exact ih2
theorem sk_24 {sh : List gb_Sh} {β : ms_B} {C G : Nat} (hw : wfB β) (hC : C ≤ 99) (hG : G ≤ 99) : ∀ (m s fuel : Nat) (g : gb_G), s + m = 2 ^ bN β → m < fuel → cvB sh g 1 β → cvW g (bN β) (wN β) (wG β) (wMo β) → cvS β C G s g → gb_T (f_X6_seekSets_24 sh 1 fuel g (Int32.ofNat C) (Int32.ofNat G) (Int32.ofNat (bN β)) (Int32.ofNat s)) (fun o => o.2 = Int32.ofNat (bc β C G (2 ^ bN β)) ∧ cvS β C G (2 ^ bN β) o.1) := by
  have hn := hw.1
  have hp := pw8 hn
  intro m
  induction m with
  | zero =>
    intro s fuel g h hf hc hW hS
    obtain ⟨f, rfl⟩ : ∃ f, fuel = f + 1 := ⟨fuel - 1, by omega⟩
    have e : s = 2 ^ bN β := by omega
    rw [f_X6_seekSets_24, pw_e _ (by omega), if_pos (by rw [e]; exact Int32.le_refl _)]
    rw [e] at hS
    exact ⟨_, rfl, hS.1, hS⟩
  | succ m ih =>
    intro s fuel g h hf hc hW hS
    obtain ⟨f, rfl⟩ : ∃ f, fuel = f + 1 := ⟨fuel - 1, by omega⟩
    have b3 := bc_b (β := β) (C := C) (G := G) s
    rw [f_X6_seekSets_24, pw_e _ (by omega), if_neg (by rw [o_le (by omega) (by omega)]; omega), hS.1, if_neg (by rw [show (256 : Int32) = Int32.ofNat 256 from rfl, o_le (by omega) (by omega)]; omega)]
    have z := sk_55 (sh := sh) (g := g) (K := fun w w0 w1 w2 w3 => f_X6_seekSets_24 sh 1 f w w0 w1 w2 w3) (P := fun o => o.2 = Int32.ofNat (bc β C G (2 ^ bN β)) ∧ cvS β C G (2 ^ bN β) o.1) hw hC hG (by omega) hc hW hS (fun g' F' hS' => ih (s + 1) f g' (by omega) (by omega) (cvB_fr hc fun c k q => F' c k (by omega)) (fun i hi => by rw [(F' 66 i (by omega)).1, (F' 67 i (by omega)).1, (F' 68 i (by omega)).1]; exact hW i hi) hS') (bN β) 0 gb_N (by omega) (by unfold gb_N; omega)
    have e1 : Int32.ofNat C - Int32.ofNat (ss (wN β) s 0) = Int32.ofNat C := Int32.sub_zero _
    have e2 : Int32.ofNat G - Int32.ofNat (ss (wG β) s 0) = Int32.ofNat G := Int32.sub_zero _
    have e3 : (if ss (wLk β) s 0 = 0 then (1 : Int32) else 0) = 1 := if_pos rfl
    rw [e1, e2, e3] at z
    exact z
theorem sk_c {sh : List gb_Sh} {g : gb_G} {β : ms_B} {C G : Nat} (hw : wfB β) (hC : C ≤ 99) (hG : G ≤ 99) (hc : cvB sh g 1 β) : gb_T (f_X6_seekSets sh g 1 (Int32.ofNat C) (Int32.ofNat G)) (fun o => o.2 = Int32.ofNat (bc β C G (2 ^ bN β)) ∧ cvS β C G (2 ^ bN β) o.1) := by
  have hn := hw.1
  have hp := pw8 hn
  obtain ⟨g1, e1, v1⟩ := lW (sh := sh) hw hc
  have F1 := w_X6_loadWares e1
  have hc1 : cvB sh g1 1 β := cvB_fr hc fun c k q => F1 c k (by omega)
  unfold f_X6_seekSets
  refine gb_T.bs e1 ?_
  have e : f_J9_min_7cf53 sh g1 8 (g1.1 1 0) = some (g1, Int32.ofNat (bN β)) := by
    unfold f_J9_min_7cf53
    rw [hc1.1]
    by_cases q : bN β < 8
    · rw [if_pos (by rw [show (8 : Int32) = Int32.ofNat 8 from rfl, o_lt (by omega) (by omega)]; exact q)]
    · rw [if_neg (by rw [show (8 : Int32) = Int32.ofNat 8 from rfl, o_lt (by omega) (by omega)]; exact q), show bN β = 8 by omega]; rfl
  rw [e, gb_bd_s, gb_let_s]
  exact sk_24 hw hC hG (2 ^ bN β) 0 gb_N _ (by omega) (by unfold gb_N; omega) (cvB_fr hc1 fun c k q => ⟨pi_n (by omega), rfl, rfl⟩) (fun i hi => by rw [pi_n (by omega), pi_n (by omega), pi_n (by omega)]; exact v1 i hi) ⟨pi_e, fun i hi => absurd hi (Nat.not_lt_zero _)⟩
