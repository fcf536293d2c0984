/-! ===== figures: what they are made of, the reference's ===== -/
theorem on {x : Int32} (h : 0 ≤ x.toInt) : Int32.ofNat x.toInt.toNat = x := Int32.toInt_inj.1 (by have := i_int x; rw [o_int (by omega)]; omega)
theorem on_b {x : Int32} {M : Nat} (h : im 0 M x) : x.toInt.toNat ≤ M := by
  rw [im] at h; omega
def fsrc (β : ms_B) (i : Nat) : Nat := if bT β i 5 = 1 ∧ ¬ bT β i 6 = -1 then (bT β i 6).toInt.toNat else i
def fB (β : ms_B) (i : Nat) : Nat := (bT β (fsrc β i) 0).toInt.toNat
def fP (β : ms_B) (i : Nat) : Nat := (bT β (fsrc β i) 1).toInt.toNat
noncomputable def fC (β : ms_B) (L : Option ms_L) (i : Nat) : Nat := (ms_as β (ms_tl β L i 1) i 1).toInt.toNat
theorem fsrc_b {β : ms_B} {i : Nat} (hw : wfB β) (hi : i < bN β) : fsrc β i < bN β := by
  have h6 := (hw.2.2.2.2.2.2.1 i hi).2.2.2.2.2.2
  unfold fsrc
  by_cases q : bT β i 5 = 1 ∧ ¬ bT β i 6 = -1
  · rw [if_pos q]
    have h1 : ¬ (bT β i 6).toInt = (-1 : Int32).toInt := fun z => q.2 (Int32.toInt_inj.1 z)
    rw [show (-1 : Int32).toInt = -1 from rfl] at h1
    rw [im] at h6
    omega
  · rw [if_neg q]; exact hi
theorem as1_im {β : ms_B} {i : Nat} {o : Option Int32} (hw : wfB β) (hi : i < bN β) : im 0 99 (ms_as β o i 1) := by
  by_cases q : bT β i 5 = 1 ∧ bT β i 6 = -1
  · rw [as1_o q, im]; decide
  · cases o with
    | none => rw [as1_n q]; exact (hw.2.2.2.2.2.2.1 i hi).2.2.1
    | some v => rw [as1_s q]; exact near_im rfl rfl (by omega)
theorem fC_e {β : ms_B} {i : Nat} {L : Option ms_L} (hw : wfB β) (hi : i < bN β) : ms_as β (ms_tl β L i 1) i 1 = Int32.ofNat (fC β L i) := (on (as1_im hw hi).1).symm
theorem fB_e {β : ms_B} {i : Nat} (hw : wfB β) (hi : i < bN β) : bT β (fsrc β i) 0 = Int32.ofNat (fB β i) := (on (Int.le_trans (by omega) (hw.2.2.2.2.2.2.1 _ (fsrc_b hw hi)).1.1)).symm
theorem fP_e {β : ms_B} {i : Nat} (hw : wfB β) (hi : i < bN β) : bT β (fsrc β i) 1 = Int32.ofNat (fP β i) := (on (Int.le_trans (by omega) (hw.2.2.2.2.2.2.1 _ (fsrc_b hw hi)).2.1.1)).symm
theorem wfF_of {β : ms_B} {L : Option ms_L} (hw : wfB β) : wfF (bN β) (fC β L) (fB β) (fP β) := by
  refine ⟨hw.1, fun i hi => ?_⟩
  have h1 := (hw.2.2.2.2.2.2.1 _ (fsrc_b hw hi)).1
  have h2 := (hw.2.2.2.2.2.2.1 _ (fsrc_b hw hi)).2.1
  have h3 := as1_im (o := ms_tl β L i 1) hw hi
  unfold fC fB fP
  rw [im] at *
  omega
theorem fC_out {β : ms_B} {i : Nat} {L : Option ms_L} (q : bT β i 5 = 1 ∧ bT β i 6 = -1) : fC β L i = 0 := by
  unfold fC
  rw [as1_o q]
  rfl
theorem src_rd {sh : List gb_Sh} {g : gb_G} {b i j : Nat} {β : ms_B} (hw : wfB β) (hc : cvB sh g b β) (hi : i < bN β) (hj : j < 7) : ∃ v, f_X0_read sh g b (if bT β i 5 = 1 then bT β i 6 else Int32.ofNat i) (Int32.ofNat j) = some (g, v) ∧ (¬ (bT β i 5 = 1 ∧ bT β i 6 = -1) → v = bT β (fsrc β i) j) := by
  have hn := hw.1
  by_cases q : bT β i 5 = 1
  · rw [if_pos q]
    by_cases q2 : bT β i 6 = -1
    · refine ⟨-1, ?_, fun z => absurd ⟨q, q2⟩ z⟩
      rw [q2, rd_f hw hc.1 (fun z => by have := z.1; rw [show (-1 : Int32).toInt = -1 from rfl] at this; omega)]
    · have h6 := (hw.2.2.2.2.2.2.1 i hi).2.2.2.2.2.2
      have h1 : ¬ (bT β i 6).toInt = (-1 : Int32).toInt := fun z => q2 (Int32.toInt_inj.1 z)
      rw [show (-1 : Int32).toInt = -1 from rfl] at h1
      have e : fsrc β i = (bT β i 6).toInt.toNat := if_pos ⟨q, q2⟩
      have h6' : 0 ≤ (bT β i 6).toInt := by rw [im] at h6; omega
      refine ⟨_, rd_t (i := fsrc β i) hw hc (by rw [e]; exact (on h6').symm) (fsrc_b hw hi) rfl hj, fun _ => rfl⟩
  · rw [if_neg q]
    have e : fsrc β i = i := if_neg (fun z => q z.1)
    exact ⟨_, rd_t hw hc rfl hi rfl hj, fun _ => by rw [e]⟩
theorem ld_15 {sh : List gb_Sh} {b : Nat} {β : ms_B} {L : Option ms_L} {q2 : Option Nat} (hb : b + 5 < 53) (hw : wfB β) : ∀ (m k fuel : Nat) (g : gb_G), k + m = bN β → m < fuel → cvB sh g b β → lq sh g q2 L → g.1 57 1 = Int32.ofNat (bN β) → (∀ i, i < k → g.1 60 i = Int32.ofNat (fC β L i) ∧ (0 < fC β L i → g.1 58 i = Int32.ofNat (fB β i) ∧ g.1 59 i = Int32.ofNat (fP β i))) → gb_T (f_X1_load_15 sh b fuel g q2 (Int32.ofNat k)) (fun o => cvF o (bN β) (fC β L) (fB β) (fP β)) := by
  have hn := hw.1
  intro m
  induction m with
  | zero =>
    intro k fuel g h hf hc hL h57 hk
    obtain ⟨f, rfl⟩ : ∃ f, fuel = f + 1 := ⟨fuel - 1, by omega⟩
    have e : k = bN β := by omega
    subst e
    rw [f_X1_load_15, if_pos (by rw [h57]; exact Int32.le_refl _)]
    exact ⟨_, rfl, h57, hk⟩
  | succ m ih =>
    intro k fuel g h hf hc hL h57 hk
    obtain ⟨f, rfl⟩ : ∃ f, fuel = f + 1 := ⟨fuel - 1, by omega⟩
    have q : k < bN β := by omega
    rw [f_X1_load_15, if_neg (by rw [h57, o_le (by omega) (by omega)]; omega), so_c hw hc q, gb_bd_s]
    simp only []
    obtain ⟨v0, e0, w0⟩ := src_rd (j := 0) hw hc q (by omega)
    rw [show (0 : Int32) = Int32.ofNat 0 from rfl, e0, gb_bd_s, gb_ck_s (o_in (by omega) (by omega)), o_cl (by omega), gb_let_s]
    have hc1 : cvB sh (gb_pi g 58 k v0) b β := cvB_fr hc fun c k q => ⟨pi_n (by omega), rfl, rfl⟩
    obtain ⟨v1, e1, w1⟩ := src_rd (j := 1) hw hc1 q (by omega)
    simp only []
    rw [show f_X0_read sh (gb_pi g 58 k v0) b (if bT β k 5 = 1 then bT β k 6 else Int32.ofNat k) 1 = some (gb_pi g 58 k v0, v1) from e1, gb_bd_s, gb_ck_s (o_in (by omega) (by omega)), gb_let_s]
    simp only []
    have hc2 : cvB sh (gb_pi (gb_pi g 58 k v0) 59 k v1) b β := cvB_fr hc1 fun c k q => ⟨pi_n (by omega), rfl, rfl⟩
    have hL2 : lq sh (gb_pi (gb_pi g 58 k v0) 59 k v1) q2 L := lq_fr hL fun c k q => ⟨(pi_n (by omega)).trans (pi_n (by omega)), rfl, rfl⟩
    obtain ⟨o, e, v⟩ := tell_c (sh := sh) (kd := 1) hb hw hc2 q (by omega) hL2
    have F := w_X4_tell e
    refine gb_T.bs e ?_
    rw [gb_ck_s (o_in (by omega) (by omega)), gb_let_s, v, fC_e hw q, o_succ]
    refine ih (k + 1) f _ (by omega) (by omega) (cvB_fr hc2 fun c k q => ?_) (lq_fr hL2 fun c k q => ?_) ?_ fun i hi => ?_
    · have z := F c k (by omega)
      exact ⟨(pi_n (by omega)).trans z.1, z.2.1, z.2.2⟩
    · have z := F c k (by omega)
      exact ⟨(pi_n (by omega)).trans z.1, z.2.1, z.2.2⟩
    · rw [pi_n (by omega), (F 57 1 (by omega)).1, pi_n (by omega), pi_n (by omega)]; exact h57
    · by_cases ei : i = k
      · subst ei
        refine ⟨pi_e, fun z => ?_⟩
        have no : ¬ (bT β i 5 = 1 ∧ bT β i 6 = -1) := fun y => by rw [fC_out y] at z; omega
        rw [pi_n (by omega), (F 58 i (by omega)).1, pi_n (by omega), pi_e, w0 no, fB_e hw q, pi_n (by omega), (F 59 i (by omega)).1, pi_e, w1 no, fP_e hw q]
        exact ⟨rfl, rfl⟩
      · rw [pi_n (by omega), (F 60 i (by omega)).1, pi_n (by omega), pi_n (by omega), pi_n (by omega), (F 58 i (by omega)).1, pi_n (by omega), pi_n (by omega), pi_n (by omega), (F 59 i (by omega)).1, pi_n (by omega), pi_n (by omega)]
        exact hk i (by omega)
theorem ld {sh : List gb_Sh} {g : gb_G} {b : Nat} {β : ms_B} {L : Option ms_L} {q2 : Option Nat} (hb : b + 5 < 53) (hw : wfB β) (hc : cvB sh g b β) (hL : lq sh g q2 L) : gb_T (f_X1_load sh g b q2) (fun o => cvF o (bN β) (fC β L) (fB β) (fP β)) := by
  have hn := hw.1
  unfold f_X1_load f_J9_min_7cf53
  have e : (if (g.1 b 0 : Int32) < 8 then some (g, g.1 b 0) else some (g, (8 : Int32))) = some (g, Int32.ofNat (bN β)) := by
    rw [hc.1]
    by_cases q : bN β < 8
    · rw [if_pos (by rw [show (8 : Int32) = Int32.ofNat 8 from rfl, o_lt (by omega) (by omega)]; exact q)]
    · rw [if_neg (by rw [show (8 : Int32) = Int32.ofNat 8 from rfl, o_lt (by omega) (by omega)]; exact q), show bN β = 8 by omega]; rfl
  rw [e, gb_bd_s, gb_let_s]
  exact ld_15 hb hw (bN β) 0 gb_N _ (by omega) (by unfold gb_N; omega) (cvB_fr hc fun c k q => ⟨pi_n (by omega), rfl, rfl⟩) (lq_fr hL fun c k q => ⟨pi_n (by omega), rfl, rfl⟩) pi_e fun i hi => by omega
/-! the reference -/
theorem pb_i {sh : List gb_Sh} {g : gb_G} {β : ms_B} {i : Nat} (hw : wfB β) (hm : mvB (g.1 79) β) (hi : i < bN β) : f_X11_pricedBy sh g (Int32.ofNat i) = some (g, Int32.ofNat (fsrc β i)) := by
  have hn := hw.1
  obtain ⟨a0, a1, a2, a3, a4, a5, a6⟩ := hm.2.1 i hi
  have h6 := (hw.2.2.2.2.2.2.1 i hi).2.2.2.2.2.2
  unfold f_X11_pricedBy fsrc
  rw [show (16 : Int32) = Int32.ofNat 16 from rfl, o_add, gb_ck_s (o_in (by omega) (by omega)), o_cl (by omega), a5, show (56 : Int32) = Int32.ofNat 56 from rfl, o_add, gb_ck_s (o_in (by omega) (by omega)), gb_ck_s (o_in (by omega) (by omega)), o_cl (by omega), a6]
  by_cases q : bT β i 5 = 1
  · rw [if_pos q]
    by_cases q2 : bT β i 6 = -1
    · rw [if_pos q2, if_neg (fun z => z.2 q2)]
    · have h1 : ¬ (bT β i 6).toInt = (-1 : Int32).toInt := fun z => q2 (Int32.toInt_inj.1 z)
      rw [show (-1 : Int32).toInt = -1 from rfl] at h1
      rw [if_neg q2, if_pos ⟨q, q2⟩, on (by rw [im] at h6; omega)]
  · rw [if_neg q, if_neg (fun z => q z.1)]
theorem c64 {X Y : Nat} (hX : X < 9223372036854775808) (hY : Y < 9223372036854775808) : lg_cmp (Int64.ofNat X) (Int64.ofNat Y) ≤ 0 ↔ X ≤ Y := by
  rw [lg_cmp_le, Int64.le_iff_toInt_le, l_int hX, l_int hY]; omega
theorem c64' {X Y : Nat} (hX : X < 9223372036854775808) (hY : Y < 9223372036854775808) : 0 ≤ lg_cmp (Int64.ofNat X) (Int64.ofNat Y) ↔ Y ≤ X := by
  rw [lg_cmp_ge, Int64.le_iff_toInt_le, l_int hX, l_int hY]; omega
def fU (β : ms_B) (ch i : Nat) : Nat := if ch = 0 then fP β i else fB β i
def fD (β : ms_B) (ch i : Nat) : Nat := if ch = 0 then fB β i else fP β i
theorem fb_97 {sh : List gb_Sh} {g : gb_G} {r k : Nat} {c u d : Nat → Nat} {y2 y3 : Int32} {K9 : gb_G → Int32 → Int32 → Int32 → Int64 → Int64 → Int32 → Option gb_G} (hr : r ≤ 3) (hk : k < 8) (h : ∀ i, i ≤ k → c i ≤ 99 ∧ 1 ≤ u i ∧ u i ≤ 12 ∧ 1 ≤ d i ∧ d i ≤ 12) : f_X11_figureBy_97 sh K9 g (Int32.ofNat r) y2 y3 (Int64.ofNat (fs r c u d k).1) (Int64.ofNat (fs r c u d k).2) (Int32.ofNat k) (Int64.ofNat (c k)) (Int64.ofNat (u k)) (Int64.ofNat (d k)) = K9 g (Int32.ofNat r) y2 y3 (Int64.ofNat (fs r c u d (k + 1)).1) (Int64.ofNat (fs r c u d (k + 1)).2) (Int32.ofNat (k + 1)) := by
  obtain ⟨q1, q2, q3, q4, q5⟩ := h k (Nat.le_refl _)
  obtain ⟨b1, b2⟩ := fs_b (r := r) k (by omega) fun i hi => h i (by omega)
  have hr' : r = 0 ∨ r = 1 ∨ 2 ≤ r := by omega
  rcases hr' with rfl | rfl | hr2
  · unfold f_X11_figureBy_97
    rw [if_pos (by decide)]
    unfold f_X11_figureBy_123
    rw [if_neg (by decide)]
    unfold f_X11_figureBy_156
    rw [if_pos (by decide)]
    unfold f_X11_figureBy_216
    rw [if_pos (by decide)]
    unfold f_X11_figureBy_230
    rw [if_pos (by decide)]
    unfold f_X11_figureBy_244
    rw [m64, m64, a64, a64, o_succ, fs, if_pos rfl]
  · have hd : 27720 / d k ≤ 27720 := Nat.div_le_self _ _
    unfold f_X11_figureBy_97
    rw [if_neg (by decide)]
    unfold f_X11_figureBy_123
    rw [if_pos (by decide), gb_nzl_s (fun z => by have := l_eq0 (by omega) z; omega)]
    unfold f_X11_figureBy_156
    rw [if_pos (by decide)]
    unfold f_X11_figureBy_216
    rw [if_pos (by decide)]
    unfold f_X11_figureBy_230
    rw [if_pos (by decide)]
    unfold f_X11_figureBy_244
    rw [show (27720 : Int64) = Int64.ofNat 27720 from rfl, l_div (by omega) (by omega), m64, m64, m64, a64, a64, o_succ, fs, if_neg (by omega), if_pos rfl]
  · have r0 : ¬ r = 0 := by omega
    have r1 : ¬ r = 1 := by omega
    have p1 : u k * (fs r c u d k).2 ≤ 12 * (k * 2744280) := Nat.mul_le_mul q3 b2
    have p2 : (fs r c u d k).1 * d k ≤ (k * 32931360) * 12 := Nat.mul_le_mul b1 q5
    unfold f_X11_figureBy_97
    rw [if_neg (show ¬ Int32.ofNat r = 0 from fun z => r0 (o_inj (j := 0) (by omega) (by omega) z))]
    unfold f_X11_figureBy_123
    rw [if_neg (show ¬ Int32.ofNat r = 1 from fun z => r1 (o_inj (j := 1) (by omega) (by omega) z))]
    unfold f_X11_figureBy_156
    have no : ∀ z : fs r c u d (k + 1) = fs r c u d k, f_X11_figureBy_216 sh K9 g (Int32.ofNat r) y2 y3 (Int64.ofNat (fs r c u d k).1) (Int64.ofNat (fs r c u d k).2) (Int32.ofNat k) (Int64.ofNat (u k)) (Int64.ofNat (d k)) 0 = K9 g (Int32.ofNat r) y2 y3 (Int64.ofNat (fs r c u d (k + 1)).1) (Int64.ofNat (fs r c u d (k + 1)).2) (Int32.ofNat (k + 1)) := by
      intro z
      unfold f_X11_figureBy_216
      rw [if_pos rfl]
      unfold f_X11_figureBy_230
      rw [if_pos rfl]
      unfold f_X11_figureBy_244
      rw [o_succ, z]
    have ye : ∀ z : fs r c u d (k + 1) = (u k, d k), f_X11_figureBy_216 sh K9 g (Int32.ofNat r) y2 y3 (Int64.ofNat (fs r c u d k).1) (Int64.ofNat (fs r c u d k).2) (Int32.ofNat k) (Int64.ofNat (u k)) (Int64.ofNat (d k)) 1 = K9 g (Int32.ofNat r) y2 y3 (Int64.ofNat (fs r c u d (k + 1)).1) (Int64.ofNat (fs r c u d (k + 1)).2) (Int32.ofNat (k + 1)) := by
      intro z
      unfold f_X11_figureBy_216
      rw [if_neg (by decide)]
      unfold f_X11_figureBy_230
      rw [if_neg (by decide)]
      unfold f_X11_figureBy_244
      rw [o_succ, z]
    have fy : 0 < c k → ((fs r c u d k).2 = 0 ∨ (r = 2 ∧ (fs r c u d k).1 * d k < u k * (fs r c u d k).2) ∨ (¬ r = 2 ∧ u k * (fs r c u d k).2 < (fs r c u d k).1 * d k)) → fs r c u d (k + 1) = (u k, d k) := fun z1 z2 => by rw [fs, if_neg r0, if_neg r1, if_pos ⟨z1, z2⟩]
    have fn : ¬ (0 < c k ∧ ((fs r c u d k).2 = 0 ∨ (r = 2 ∧ (fs r c u d k).1 * d k < u k * (fs r c u d k).2) ∨ (¬ r = 2 ∧ u k * (fs r c u d k).2 < (fs r c u d k).1 * d k))) → fs r c u d (k + 1) = fs r c u d k := fun z => by rw [fs, if_neg r0, if_neg r1, if_neg z]
    rw [if_neg (by rw [show (1 : Int32) = Int32.ofNat 1 from rfl, o_le (by omega) (by omega)]; omega)]
    by_cases e : c k = 0
    · rw [if_pos ((p64 (by omega)).2 e)]
      exact no (fn (by omega))
    · rw [if_neg (fun z => e ((p64 (by omega)).1 z))]
      by_cases e2 : (fs r c u d k).2 = 0
      · rw [if_pos ((z64 (by omega)).2 e2)]
        exact ye (fy (by omega) (Or.inl e2))
      · rw [if_neg (fun z => e2 ((z64 (by omega)).1 z)), m64, m64]
        by_cases e3 : r = 2
        · rw [if_pos (by rw [e3]; rfl)]
          by_cases e4 : u k * (fs r c u d k).2 ≤ (fs r c u d k).1 * d k
          · rw [if_pos ((c64 (by omega) (by omega)).2 e4)]
            exact no (fn (by omega))
          · rw [if_neg (fun z => e4 ((c64 (by omega) (by omega)).1 z))]
            exact ye (fy (by omega) (Or.inr (Or.inl ⟨e3, by omega⟩)))
        · rw [if_neg (show ¬ Int32.ofNat r = 2 from fun z => e3 (o_inj (j := 2) (by omega) (by omega) z))]
          by_cases e4 : (fs r c u d k).1 * d k ≤ u k * (fs r c u d k).2
          · rw [if_pos ((c64' (by omega) (by omega)).2 e4)]
            exact no (fn (by omega))
          · rw [if_neg (fun z => e4 ((c64' (by omega) (by omega)).1 z))]
            exact ye (fy (by omega) (Or.inr (Or.inr ⟨e3, by omega⟩)))
theorem fb_37 {sh : List gb_Sh} {g : gb_G} {β : ms_B} {r k ch : Nat} {c : Nat → Nat} {y3 : Int32} {K9 : gb_G → Int32 → Int32 → Int32 → Int64 → Int64 → Int32 → Option gb_G} (hw : wfB β) (hm : mvB (g.1 79) β) (hr : r ≤ 3) (hch : ch ≤ 1) (hk : k < bN β) (hc : ∀ i, i < bN β → c i ≤ 99) : f_X11_figureBy_37 sh K9 g (Int32.ofNat r) (Int32.ofNat ch) y3 (Int64.ofNat (fs r c (fU β ch) (fD β ch) k).1) (Int64.ofNat (fs r c (fU β ch) (fD β ch) k).2) (Int32.ofNat k) (Int64.ofNat (c k)) = K9 g (Int32.ofNat r) (Int32.ofNat ch) y3 (Int64.ofNat (fs r c (fU β ch) (fD β ch) (k + 1)).1) (Int64.ofNat (fs r c (fU β ch) (fD β ch) (k + 1)).2) (Int32.ofNat (k + 1)) := by
  have hn := hw.1
  have hs := fsrc_b hw hk
  obtain ⟨a0, a1, -⟩ := hm.2.1 _ hs
  have hF := (wfF_of (L := none) hw).2
  have h : ∀ i, i ≤ k → c i ≤ 99 ∧ 1 ≤ fU β ch i ∧ fU β ch i ≤ 12 ∧ 1 ≤ fD β ch i ∧ fD β ch i ≤ 12 := fun i hi => by
    have z := hF i (by omega)
    have z2 := hc i (by omega)
    unfold fU fD
    by_cases q : ch = 0
    · rw [if_pos q, if_pos q]; omega
    · rw [if_neg q, if_neg q]; omega
  have hFk := hF k hk
  unfold f_X11_figureBy_37
  rw [pb_i hw hm hk, gb_bd_s]
  simp only []
  rw [show (32 : Int32) = Int32.ofNat 32 from rfl, o_add, gb_ck_s (o_in (by omega) (by omega)), pb_i hw hm hk, gb_bd_s]
  simp only []
  rw [show (8 : Int32) = Int32.ofNat 8 from rfl, o_add, gb_ck_s (o_in (by omega) (by omega)), o_cl (by omega), o_cl (by omega), a0, a1, fB_e hw hk, fP_e hw hk, n64 (by omega), n64 (by omega)]
  have hch' : ch = 0 ∨ ch = 1 := by omega
  have e97 := fb_97 (sh := sh) (g := g) (y2 := Int32.ofNat ch) (y3 := y3) (K9 := K9) hr (by omega) h
  rcases hch' with rfl | rfl
  · rw [if_pos (by decide)]
    unfold f_X11_figureBy_84
    rw [if_pos (by decide)]
    exact e97
  · rw [if_neg (by decide)]
    unfold f_X11_figureBy_84
    rw [if_neg (by decide)]
    exact e97
def ww (w : Option Nat) (c : Nat → Nat) (i : Nat) : Nat := if w = some i then 0 else c i
def wi (w : Option Nat) : Int32 := match w with
  | none => -1
  | some i => Int32.ofNat i
theorem fg_9 {sh : List gb_Sh} {β : ms_B} {r ch : Nat} {w : Option Nat} (hw : wfB β) (hr : r ≤ 3) (hch : ch ≤ 1) (hw' : ∀ i, w = some i → i < 8) : ∀ (m k fuel : Nat) (g : gb_G), k + m = bN β → m < fuel → mvB (g.1 79) β → g.1 77 20 = 0 → gb_T (f_X11_figureBy_9 sh fuel g (Int32.ofNat r) (Int32.ofNat ch) (wi w) (Int64.ofNat (fs r (ww w (fC β (ms_lw β (bF β)))) (fU β ch) (fD β ch) k).1) (Int64.ofNat (fs r (ww w (fC β (ms_lw β (bF β)))) (fU β ch) (fD β ch) k).2) (Int32.ofNat k)) (fun o => o.2.1 77 41 = Int64.ofNat (FG r (bN β) (ww w (fC β (ms_lw β (bF β)))) (fU β ch) (fD β ch)).1 ∧ o.2.1 77 42 = Int64.ofNat (FG r (bN β) (ww w (fC β (ms_lw β (bF β)))) (fU β ch) (fD β ch)).2) := by
  have hn := hw.1
  have hF := (wfF_of (L := ms_lw β (bF β)) hw).2
  have hc : ∀ i, i < bN β → ww w (fC β (ms_lw β (bF β))) i ≤ 99 := fun i hi => by
    unfold ww
    split
    · omega
    · exact (hF i hi).1
  have h : ∀ i, i < bN β → ww w (fC β (ms_lw β (bF β))) i ≤ 99 ∧ 1 ≤ fU β ch i ∧ fU β ch i ≤ 12 ∧ 1 ≤ fD β ch i ∧ fD β ch i ≤ 12 := fun i hi => by
    have z := hF i (by omega)
    have z2 := hc i (by omega)
    unfold fU fD
    by_cases q : ch = 0
    · rw [if_pos q, if_pos q]; omega
    · rw [if_neg q, if_neg q]; omega
  intro m
  induction m with
  | zero =>
    intro k fuel g h' hf hm h20
    obtain ⟨f, rfl⟩ : ∃ f, fuel = f + 1 := ⟨fuel - 1, by omega⟩
    have e : k = bN β := by omega
    subst e
    obtain ⟨b1, b2⟩ := fs_b (r := r) (bN β) hn h
    rw [f_X11_figureBy_9, if_pos (by rw [hm.1]; exact Int32.le_refl _), gb_let_s, gb_let_s]
    unfold FG
    by_cases q : (fs r (ww w (fC β (ms_lw β (bF β)))) (fU β ch) (fD β ch) (bN β)).2 = 0
    · rw [if_pos ((p64 (by omega)).2 q), if_pos q]
      exact ⟨_, rfl, by rw [pj_n (by omega), pj_e]; rfl, pj_e⟩
    · rw [if_neg (fun z => q ((p64 (by omega)).1 z)), if_neg q, low_N (by omega) (by omega) (by omega), gb_bd_s]
      exact ⟨_, rfl, by rw [pj_n (by omega), pj_e], pj_e⟩
  | succ m ih =>
    intro k fuel g h' hf hm h20
    obtain ⟨f, rfl⟩ : ∃ f, fuel = f + 1 := ⟨fuel - 1, by omega⟩
    have q : k < bN β := by omega
    have e37 := fun (g : gb_G) (hm : mvB (g.1 79) β) => fb_37 (sh := sh) (g := g) (y3 := wi w) (K9 := fun w w0 w1 w2 w3 w4 w5 => f_X11_figureBy_9 sh f w w0 w1 w2 w3 w4 w5) hw hm hr hch q hc
    rw [f_X11_figureBy_9, if_neg (by rw [hm.1, o_le (by omega) (by omega)]; omega)]
    by_cases e : w = some k
    · have ec : ww w (fC β (ms_lw β (bF β))) k = 0 := if_pos e
      have z := e37 g hm
      rw [ec] at z
      rw [if_pos (by rw [e]; rfl)]
      refine Eq.mpr (congrArg (fun y => gb_T y _) z) ?_
      exact ih (k + 1) f g (by omega) (by omega) hm h20
    · have ec : ww w (fC β (ms_lw β (bF β))) k = fC β (ms_lw β (bF β)) k := if_neg e
      rw [if_neg (by
        intro z
        cases w with
        | none => exact o_ne1 (by omega) z
        | some i => exact e (congrArg some (o_inj (by omega) (by have := hw' i rfl; omega) z).symm))]
      obtain ⟨o, eo, v⟩ := cnt_m (sh := sh) hw hm h20 q
      have F := w_X11_countsOf eo
      refine gb_T.bs eo ?_
      have hm1 : mvB (o.1.1 79) β := mvB_fr hm hw fun k _ => (F 79 k (by omega)).1
      have z := e37 o.1 hm1
      rw [ec] at z
      have hFk := (hF k q).1
      rw [v, fC_e hw q, n64 (by omega)]
      refine Eq.mpr (congrArg (fun y => gb_T y _) z) ?_
      exact ih (k + 1) f o.1 (by omega) (by omega) hm1 (by rw [(F 77 20 (by omega)).1]; exact h20)
theorem fg_m {sh : List gb_Sh} {g : gb_G} {β : ms_B} {r ch : Nat} {w : Option Nat} (hw : wfB β) (hr : r ≤ 3) (hch : ch ≤ 1) (hw' : ∀ i, w = some i → i < 8) (hm : mvB (g.1 79) β) (h20 : g.1 77 20 = 0) : gb_T (f_X11_figureBy sh g (Int32.ofNat r) (Int32.ofNat ch) (wi w)) (fun o => o.2.1 77 41 = Int64.ofNat (FG r (bN β) (ww w (fC β (ms_lw β (bF β)))) (fU β ch) (fD β ch)).1 ∧ o.2.1 77 42 = Int64.ofNat (FG r (bN β) (ww w (fC β (ms_lw β (bF β)))) (fU β ch) (fD β ch)).2) :=
  fg_9 hw hr hch hw' (bN β) 0 gb_N g (by omega) (by have := hw.1; unfold gb_N; omega) hm h20
