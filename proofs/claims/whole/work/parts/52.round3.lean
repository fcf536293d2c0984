/-! ===== round: the reference ===== -/
theorem pO_m {sh : List gb_Sh} {g : gb_G} {β : ms_B} {i : Nat} (hw : wfB β) (hm : mR g β) (hi : i < bN β) : f_X11_placeOf sh g (Int32.ofNat i) = some (g, Int32.ofNat (plc β i)) := by
  have hn := hw.1
  have hs := fsrc_b hw hi
  unfold f_X11_placeOf
  rw [pb_i hw hm.1 hi, gb_bd_s]
  simp only []
  rw [show (48 : Int32) = Int32.ofNat 48 from rfl, o_add, gb_ck_s (o_in (by omega) (by omega)), o_cl (by omega), (hm.1.2.1 _ hs).2.2.2.2.1, plc_e hw hi]
def mvQ (g : gb_G) (W S : Nat) (pl : Nat → Nat) : Prop := ∀ t, t < S → sub8 t W → ∀ i, i < 8 → sb W i = 1 → g.1 99 (8 * t + i) = Int32.ofNat (FS pl t (pl i))
theorem W_n {β : ms_B} {i : Nat} (hi : i < 8) (h : sb (WT β 8) i = 1) : i < bN β := (((WT_b (β := β) 8 (by omega)).2.2 i hi).1 h).2.1
theorem lr_33 {sh : List gb_Sh} {g : gb_G} {β : ms_B} {s a : Nat} {K : gb_G → Int32 → Int32 → Int32 → Option gb_G} {P : gb_G → Prop} (hw : wfB β) (hs : s < 256) (ha : a < 8) (hm : mR g β) (hQ : mvQ g (WT β 8) s (plc β)) (hK : ∀ g', mR g' β → (∀ j, ¬ j = 8 * s + a → g'.1 99 j = g.1 99 j) → (sub8 s (WT β 8) → sb (WT β 8) a = 1 → g'.1 99 (8 * s + a) = Int32.ofNat (FS (plc β) s (plc β a))) → gb_T (K g' (Int32.ofNat (WT β 8)) (Int32.ofNat s) (Int32.ofNat (a + 1))) P) : ∀ (m k fuel : Nat), k + m = bN β → m < fuel → gb_T (f_X11_layRounds_33 sh K fuel g (Int32.ofNat (WT β 8)) (Int32.ofNat s) (Int32.ofNat a) (Int32.ofNat (if s = 0 then 0 else mnv (cR (plc β) (FS (plc β)) s (plc β a)) k)) (Int32.ofNat k)) P := by
  have hn := hw.1
  have hW := (WT_b (β := β) 8 (by omega)).2.1
  have hpl := plc_b hw
  have vb : ∀ k, (if s = 0 then 0 else mnv (cR (plc β) (FS (plc β)) s (plc β a)) k) ≤ 100000000 := fun k => by
    split
    · omega
    · exact mnv_b k
  have fin : ∀ k, (sub8 s (WT β 8) → sb (WT β 8) a = 1 → k = bN β) → gb_T (f_X11_layRounds_131 sh K g (Int32.ofNat (WT β 8)) (Int32.ofNat s) (Int32.ofNat a) (Int32.ofNat (if s = 0 then 0 else mnv (cR (plc β) (FS (plc β)) s (plc β a)) k))) P := by
    intro k hk
    unfold f_X11_layRounds_131
    rw [show (8 : Int32) = Int32.ofNat 8 from rfl, o_mul, o_add, gb_ck_s (o_in (by omega) (by omega)), gb_let_s, o_cl (by omega), o_succ]
    refine hK _ ⟨mvB_fr hm.1 hw fun k _ => pi_n (by omega), (pi_n (by omega)).trans hm.2⟩ (fun j hj => pi_n (by omega)) (fun h1 h2 => ?_)
    rw [pi_e, hk h1 h2]
    by_cases z : s = 0
    · rw [if_pos z, z, FS_0]
    · rw [if_neg z, FS_s hs z]
      have x := mnv_x (c := cR (plc β) (FS (plc β)) s (plc β a)) (n := bN β) (8 - bN β) fun i h3 h4 => cR_n fun y => by
        have := W_n (by omega) (h1 i (by omega) y)
        omega
      rw [show bN β + (8 - bN β) = 8 by omega] at x
      rw [x]
  intro m
  induction m with
  | zero =>
    intro k fuel h hf
    obtain ⟨f, rfl⟩ : ∃ f, fuel = f + 1 := ⟨fuel - 1, by omega⟩
    have e : k = bN β := by omega
    rw [f_X11_layRounds_33, hm.1.1, if_pos (by rw [e]; exact Int32.le_refl _)]
    exact fin k fun _ _ => e
  | succ m ih =>
    intro k fuel h hf
    obtain ⟨f, rfl⟩ : ∃ f, fuel = f + 1 := ⟨fuel - 1, by omega⟩
    rw [f_X11_layRounds_33, hm.1.1, if_neg (by rw [o_le (by omega) (by omega)]; omega)]
    by_cases q : sub8 s (WT β 8)
    · rw [if_pos ((s_dif hs hW).2 q), is_m (by omega) ha, gb_bd_s]
      simp only []
      rcases sb_01 (WT β 8) a with e | e
      · rw [if_pos (by rw [e]; rfl)]
        exact fin k fun _ y => by omega
      · have han := W_n ha e
        rw [if_neg (by rw [e]; decide), is_m (by omega) (by omega), gb_bd_s]
        simp only []
        have stp : ∀ v : Nat, v = cR (plc β) (FS (plc β)) s (plc β a) k → v ≤ 100000000 → gb_T (f_X11_layRounds_107 sh (fun w w0 w1 w2 w3 w4 => f_X11_layRounds_33 sh K f w w0 w1 w2 w3 w4) g (Int32.ofNat (WT β 8)) (Int32.ofNat s) (Int32.ofNat a) (Int32.ofNat (if s = 0 then 0 else mnv (cR (plc β) (FS (plc β)) s (plc β a)) k)) (Int32.ofNat k) (Int32.ofNat v)) P := by
          intro v hv hvb
          have b := vb k
          have ih2 := ih (k + 1) f (by omega) (by omega)
          unfold f_X11_layRounds_107 f_X11_layRounds_123
          rw [o_succ]
          by_cases z : s = 0
          · rw [if_pos z] at ih2 ⊢
            rw [if_pos (by rw [o_le (by omega) (by omega)]; omega)]
            exact ih2
          · rw [if_neg z] at ih2 b ⊢
            rw [mnv, ← hv] at ih2
            by_cases y : v < mnv (cR (plc β) (FS (plc β)) s (plc β a)) k
            · rw [if_pos y] at ih2
              rw [if_neg (by rw [o_le (by omega) (by omega)]; omega)]
              exact ih2
            · rw [if_neg y] at ih2
              rw [if_pos (by rw [o_le (by omega) (by omega)]; omega)]
              exact ih2
        rcases sb_01 s k with e2 | e2
        · rw [if_pos (by rw [e2]; rfl)]
          exact stp 100000000 (cR_n (by omega)).symm (by omega)
        · obtain ⟨r1, r2⟩ := s_rm s hs k (by omega) e2
          obtain ⟨u1, u2, u3⟩ := sub_rm hs (by omega) e2 q
          have hp2 := pw1 k
          have hpa := hpl a
          have hpk := hpl k
          have cb := cR_b (p := plc β a) hpl hs hpa e2
          rw [if_neg (by rw [e2]; decide), pO_m hw hm han, gb_bd_s]
          simp only []
          rw [pO_m hw hm (by omega), gb_bd_s]
          simp only []
          rw [sO_m (by omega) (by omega), gb_bd_s, pw_e _ (by omega), a_sub r2, show (8 : Int32) = Int32.ofNat 8 from rfl, o_mul, o_add, gb_ck_s (o_in (by omega) (by omega)), o_cl (by omega), hQ (s - 2 ^ k) (by omega) u1 k (by omega) u3, o_add]
          exact stp _ (if_pos e2).symm (by
            have ce : cR (plc β) (FS (plc β)) s (plc β a) k = stN (plc β a) (plc β k) + FS (plc β) (s - 2 ^ k) (plc β k) := if_pos e2
            omega)
    · rw [if_neg (fun z => q ((s_dif hs hW).1 z))]
      exact fin k fun y => absurd y q
theorem lr_11 {sh : List gb_Sh} {β : ms_B} {s : Nat} {K : gb_G → Int32 → Int32 → Option gb_G} {P : gb_G → Prop} (hw : wfB β) (hs : s < 256) (hK : ∀ g', mR g' β → mvQ g' (WT β 8) (s + 1) (plc β) → gb_T (K g' (Int32.ofNat (WT β 8)) (Int32.ofNat (s + 1))) P) : ∀ (m a fuel : Nat) (g : gb_G), a + m = 8 → m < fuel → mR g β → mvQ g (WT β 8) s (plc β) → (sub8 s (WT β 8) → ∀ i, i < a → sb (WT β 8) i = 1 → g.1 99 (8 * s + i) = Int32.ofNat (FS (plc β) s (plc β i))) → gb_T (f_X11_layRounds_11 sh K fuel g (Int32.ofNat (WT β 8)) (Int32.ofNat s) (Int32.ofNat a)) P := by
  have hn := hw.1
  intro m
  induction m with
  | zero =>
    intro a fuel g h hf hm hQ hR
    obtain ⟨f, rfl⟩ : ∃ f, fuel = f + 1 := ⟨fuel - 1, by omega⟩
    have e : a = 8 := by omega
    subst e
    rw [f_X11_layRounds_11, if_pos (by decide), o_succ]
    refine hK g hm fun t h1 h2 => ?_
    by_cases et : t = s
    · rw [et] at h2 ⊢; exact hR h2
    · exact hQ t (by omega) h2
  | succ m ih =>
    intro a fuel g h hf hm hQ hR
    obtain ⟨f, rfl⟩ : ∃ f, fuel = f + 1 := ⟨fuel - 1, by omega⟩
    rw [f_X11_layRounds_11, if_neg (by rw [show (8 : Int32) = Int32.ofNat 8 from rfl, o_le (by omega) (by omega)]; omega)]
    unfold f_X11_layRounds_28
    have z := lr_33 (sh := sh) (g := g) (s := s) (a := a) (K := fun w w0 w1 w2 => f_X11_layRounds_11 sh K f w w0 w1 w2) (P := P) hw hs (by omega) hm hQ (fun g' hm' h1 h2 => ih (a + 1) f g' (by omega) (by omega) hm' (fun t ht hs' i hi hb => (h1 _ (by omega)).trans (hQ t ht hs' i hi hb)) (fun hs' i hi hb => by
      by_cases ei : i = a
      · rw [ei] at hb ⊢; exact h2 hs' hb
      · exact (h1 _ (by omega)).trans (hR hs' i (by omega) hb))) (bN β) 0 gb_N (by omega) (by unfold gb_N; omega)
    by_cases q : s = 0
    · rw [if_pos (by rw [q]; rfl)]
      rw [if_pos q] at z
      exact z
    · rw [if_neg (show ¬ Int32.ofNat s = 0 from fun y => q (o_inj (j := 0) (by omega) (by omega) y))]
      rw [if_neg q] at z
      exact z
theorem lr_2 {sh : List gb_Sh} {β : ms_B} (hw : wfB β) : ∀ (m s fuel : Nat) (g : gb_G), s + m = 256 → m < fuel → mR g β → mvQ g (WT β 8) s (plc β) → gb_T (f_X11_layRounds_2 sh fuel g (Int32.ofNat (WT β 8)) (Int32.ofNat s)) (fun o => mR o β ∧ mvQ o (WT β 8) 256 (plc β)) := by
  intro m
  induction m with
  | zero =>
    intro s fuel g h hf hm hQ
    obtain ⟨f, rfl⟩ : ∃ f, fuel = f + 1 := ⟨fuel - 1, by omega⟩
    have e : s = 256 := by omega
    subst e
    rw [f_X11_layRounds_2, if_pos (by decide)]
    exact ⟨_, rfl, hm, hQ⟩
  | succ m ih =>
    intro s fuel g h hf hm hQ
    obtain ⟨f, rfl⟩ : ∃ f, fuel = f + 1 := ⟨fuel - 1, by omega⟩
    rw [f_X11_layRounds_2, if_neg (by rw [show (256 : Int32) = Int32.ofNat 256 from rfl, o_le (by omega) (by omega)]; omega)]
    exact lr_11 hw (by omega) (fun g' hm' hQ' => ih (s + 1) f g' (by omega) (by omega) hm' hQ') 8 0 gb_N g (by omega) (by unfold gb_N; omega) hm hQ (fun _ i hi => by omega)
theorem fp_m {sh : List gb_Sh} {g : gb_G} {β : ms_B} {s p i : Nat} (hw : wfB β) (hm : mR g β) (hQ : mvQ g (WT β 8) 256 (plc β)) (hs : s < 256) (hp : p ≤ 24) (hi : i < 8) (hW : sub8 s (WT β 8)) : f_X11_fromPlace sh g (Int32.ofNat p) (Int32.ofNat s) (Int32.ofNat i) = some (g, Int32.ofNat (cR (plc β) (FS (plc β)) s p i)) := by
  have hpl := plc_b hw
  unfold f_X11_fromPlace
  rw [is_m (by omega) hi, gb_bd_s]
  simp only []
  rcases sb_01 s i with e | e
  · rw [if_pos (by rw [e]; rfl), cR_n (by omega)]; rfl
  · obtain ⟨r1, r2⟩ := s_rm s hs i hi e
    obtain ⟨u1, u2, u3⟩ := sub_rm hs hi e hW
    have hpi := hpl i
    have hp2 := pw1 i
    have hin := W_n hi u3
    have ce : cR (plc β) (FS (plc β)) s p i = stN p (plc β i) + FS (plc β) (s - 2 ^ i) (plc β i) := if_pos e
    rw [if_neg (by rw [e]; decide), pO_m hw hm hin, gb_bd_s]
    simp only []
    rw [sO_m (by omega) (by omega), gb_bd_s, pw_e _ (by omega), a_sub r2, show (8 : Int32) = Int32.ofNat 8 from rfl, o_mul, o_add, gb_ck_s (o_in (by omega) (by omega)), o_cl (by omega), hQ (s - 2 ^ i) (by omega) u1 i hi u3, o_add, ce]
theorem rn_104 {sh : List gb_Sh} {g : gb_G} {β : ms_B} {s p : Nat} {y2 y6 y7 : Int32} {K : gb_G → Int32 → Int32 → Int32 → Int32 → Int32 → Int32 → Option (gb_G × Int32)} {P : gb_G × Int32 → Prop} (hw : wfB β) (hm : mR g β) (hQ : mvQ g (WT β 8) 256 (plc β)) (hs : s < 256) (hp : p ≤ 24) (hW : sub8 s (WT β 8)) (hz : ¬ s = 0) (hK : gb_T (K g y2 (Int32.ofNat (s - 2 ^ aR (plc β) s p)) (Int32.ofNat (plc β (aR (plc β) s p))) (Int32.ofNat (aR (plc β) s p)) (y6 + Int32.ofNat (stN p (plc β (aR (plc β) s p)))) (y7 + 1)) P) : ∀ (m k fuel : Nat), k + m = 8 → 1 ≤ k → m < fuel → gb_T (f_X11_round_104 sh K fuel g y2 (Int32.ofNat s) (Int32.ofNat p) (Int32.ofNat (fmi (cR (plc β) (FS (plc β)) s p) (k - 1))) y6 y7 (Int32.ofNat k)) P := by
  have hpl := plc_b hw
  have cb : ∀ i, cR (plc β) (FS (plc β)) s p i ≤ 100000000 := fun i => by
    by_cases q : sb s i = 1
    · have := cR_b hpl hs hp q; omega
    · rw [cR_n q]; omega
  intro m
  induction m with
  | zero =>
    intro k fuel h h1 hf
    obtain ⟨f, rfl⟩ : ∃ f, fuel = f + 1 := ⟨fuel - 1, by omega⟩
    have e : k = 8 := by omega
    subst e
    have am := aR_m hpl hs hp hz
    have a8 := aR_8 (pl := plc β) (s := s) (p := p)
    obtain ⟨r1, r2⟩ := s_rm s hs _ a8 am
    have han := W_n a8 (hW _ a8 am)
    have hpa := hpl (aR (plc β) s p)
    have ea : fmi (cR (plc β) (FS (plc β)) s p) (8 - 1) = aR (plc β) s p := rfl
    rw [f_X11_round_104, if_pos (by decide), ea, pO_m hw hm han, gb_bd_s]
    simp only []
    rw [sO_m (by omega) (by omega), gb_bd_s]
    simp only []
    rw [pO_m hw hm han, gb_bd_s]
    simp only []
    rw [pw_e _ (by omega), a_sub r2]
    exact hK
  | succ m ih =>
    intro k fuel h h1 hf
    obtain ⟨f, rfl⟩ : ∃ f, fuel = f + 1 := ⟨fuel - 1, by omega⟩
    have fl := fm_le (c := cR (plc β) (FS (plc β)) s p) (k - 1)
    rw [f_X11_round_104, if_neg (by rw [show (8 : Int32) = Int32.ofNat 8 from rfl, o_le (by omega) (by omega)]; omega), fp_m hw hm hQ hs hp (by omega) hW, gb_bd_s]
    simp only []
    rw [fp_m hw hm hQ hs hp (by omega) hW, gb_bd_s]
    simp only []
    unfold f_X11_round_139
    simp only []
    rw [o_succ]
    have ih2 := ih (k + 1) f (by omega) (by omega) (by omega)
    have c1 := cb k
    have c2 := cb (fmi (cR (plc β) (FS (plc β)) s p) (k - 1))
    rw [show k + 1 - 1 = (k - 1) + 1 by omega, fmi, show k - 1 + 1 = k by omega] at ih2
    by_cases q : cR (plc β) (FS (plc β)) s p k < cR (plc β) (FS (plc β)) s p (fmi (cR (plc β) (FS (plc β)) s p) (k - 1))
    · rw [if_neg (by rw [o_le (by omega) (by omega)]; omega)]
      rw [if_pos q] at ih2
      exact ih2
    · rw [if_pos (by rw [o_le (by omega) (by omega)]; omega)]
      rw [if_neg q] at ih2
      exact ih2
noncomputable def rV (β : ms_B) (p : Nat) (x : Int32) : Int32 := if x = -1 then Int32.ofNat (FS (plc β) (WT β 8) p) else if 0 ≤ x.toInt ∧ x.toInt.toNat < pc (WT β 8) then Int32.ofNat (aR (plc β) (pth (plc β) (WT β 8) p x.toInt.toNat).1 (pth (plc β) (WT β 8) p x.toInt.toNat).2) else -1
theorem rn_83 {sh : List gb_Sh} {g : gb_G} {β : ms_B} {p : Nat} {x : Int32} (hw : wfB β) (hp : p ≤ 24) (hx : -1 ≤ x.toInt) (hm : mR g β) (hQ : mvQ g (WT β 8) 256 (plc β)) : ∀ (m k fuel : Nat) (y5 : Int32), k + m = pc (WT β 8) → m < fuel → (x = -1 ∨ (k : Int) ≤ x.toInt + 1) → (∀ j, k = j + 1 → y5 = Int32.ofNat (aR (plc β) (pth (plc β) (WT β 8) p j).1 (pth (plc β) (WT β 8) p j).2)) → gb_T (f_X11_round_83 sh fuel g x (Int32.ofNat (pth (plc β) (WT β 8) p k).1) (Int32.ofNat (pth (plc β) (WT β 8) p k).2) y5 (Int32.ofNat (FS (plc β) (WT β 8) p - FS (plc β) (pth (plc β) (WT β 8) p k).1 (pth (plc β) (WT β 8) p k).2)) (Int32.ofNat k)) (fun o => o.2 = rV β p x) := by
  have hpl := plc_b hw
  have hW := (WT_b (β := β) 8 (by omega)).2.1
  have h8 := pc_b (WT β 8)
  have hxi := i_int x
  intro m
  induction m with
  | zero =>
    intro k fuel y5 h hf hk hy
    obtain ⟨f, rfl⟩ : ∃ f, fuel = f + 1 := ⟨fuel - 1, by omega⟩
    have e : k = pc (WT β 8) := by omega
    obtain ⟨b1, b2⟩ := pth_b hpl hW hp k
    have hz : (pth (plc β) (WT β 8) p k).1 = 0 := (pc_0 _ b1).1 (by have := pth_p hpl hW hp k (by omega); omega)
    rw [f_X11_round_83, hz, if_pos (show Int32.ofNat 0 = 0 from rfl), FS_0, Nat.sub_zero]
    unfold f_X11_round_184 rV
    by_cases q : x = -1
    · rw [if_pos q, if_pos q]; exact ⟨_, rfl, rfl⟩
    · rw [if_neg q, if_neg q]
      have hk' := hk.resolve_left q
      have hx0 : 0 ≤ x.toInt := by
        have h1 : ¬ x.toInt = (-1 : Int32).toInt := fun z => q (Int32.toInt_inj.1 z)
        rw [show (-1 : Int32).toInt = -1 from rfl] at h1
        omega
      by_cases q2 : (k : Int) = x.toInt + 1
      · have ex : x + 1 = Int32.ofNat k := Int32.toInt_inj.1 (by rw [i_add, o_int (by omega), show (1 : Int32).toInt = 1 from rfl] <;> (try rw [show (1 : Int32).toInt = 1 from rfl]) <;> omega)
        rw [if_pos ex.symm, if_pos ⟨hx0, by omega⟩]
        refine ⟨_, rfl, ?_⟩
        rw [hy (x.toInt.toNat) (by omega)]
      · rw [if_neg (fun z => q2 (by
          have ex : x = Int32.ofNat k - 1 := by rw [z, Int32.add_sub_cancel]
          have e2 := congrArg Int32.toInt ex
          by_cases k0 : k = 0
          · rw [k0, show (Int32.ofNat 0 - 1 : Int32).toInt = -1 from rfl] at e2; omega
          · rw [n_pred (by omega)] at e2; omega)), if_neg (fun z => by omega)]
        exact ⟨_, rfl, rfl⟩
  | succ m ih =>
    intro k fuel y5 h hf hk hy
    obtain ⟨f, rfl⟩ : ∃ f, fuel = f + 1 := ⟨fuel - 1, by omega⟩
    obtain ⟨b1, b2⟩ := pth_b hpl hW hp k
    have hs := pth_s hpl hW hp k
    have hpc := pth_p hpl hW hp k (by omega)
    have hz : ¬ (pth (plc β) (WT β 8) p k).1 = 0 := fun z => by rw [(pc_0 _ b1).2 z] at hpc; omega
    rw [f_X11_round_83, if_neg (show ¬ Int32.ofNat (pth (plc β) (WT β 8) p k).1 = 0 from fun z => hz (o_inj (j := 0) (by omega) (by omega) z))]
    have sm : ∀ j, j ≤ k + 1 → FS (plc β) (pth (plc β) (WT β 8) p j).1 (pth (plc β) (WT β 8) p j).2 ≤ FS (plc β) (WT β 8) p := by
      intro j
      induction j with
      | zero => intro _; exact Nat.le_refl _
      | succ j ihj =>
        intro hj
        obtain ⟨d1, d2⟩ := pth_b hpl hW hp j
        have hpj := pth_p hpl hW hp j (by omega)
        have hzj : ¬ (pth (plc β) (WT β 8) p j).1 = 0 := fun z => by rw [(pc_0 _ d1).2 z] at hpj; omega
        have e := (FS_a hpl d1 d2 hzj).2
        have i2 := ihj (by omega)
        show FS (plc β) ((pth (plc β) (WT β 8) p j).1 - 2 ^ aR (plc β) (pth (plc β) (WT β 8) p j).1 (pth (plc β) (WT β 8) p j).2) (plc β (aR (plc β) (pth (plc β) (WT β 8) p j).1 (pth (plc β) (WT β 8) p j).2)) ≤ _
        omega
    have go : (x = -1 ∨ ((k + 1 : Nat) : Int) ≤ x.toInt + 1) → gb_T (f_X11_round_98 sh (fun w w0 w1 w2 w3 w4 w5 => f_X11_round_83 sh f w w0 w1 w2 w3 w4 w5) g x (Int32.ofNat (pth (plc β) (WT β 8) p k).1) (Int32.ofNat (pth (plc β) (WT β 8) p k).2) (Int32.ofNat (FS (plc β) (WT β 8) p - FS (plc β) (pth (plc β) (WT β 8) p k).1 (pth (plc β) (WT β 8) p k).2)) (Int32.ofNat k)) (fun o => o.2 = rV β p x) := by
      intro hk1
      unfold f_X11_round_98
      refine rn_104 hw hm hQ b1 b2 hs hz ?_ 7 1 gb_N (by omega) (by omega) (by unfold gb_N; omega)
      have e := (FS_a hpl b1 b2 hz).2
      have s1 := sm k (by omega)
      have s2 := sm (k + 1) (by omega)
      have ih2 := ih (k + 1) f (Int32.ofNat (aR (plc β) (pth (plc β) (WT β 8) p k).1 (pth (plc β) (WT β 8) p k).2)) (by omega) (by omega) hk1 (fun j hj => by rw [show j = k by omega])
      have e3 : FS (plc β) (WT β 8) p - FS (plc β) (pth (plc β) (WT β 8) p (k + 1)).1 (pth (plc β) (WT β 8) p (k + 1)).2 = FS (plc β) (WT β 8) p - FS (plc β) (pth (plc β) (WT β 8) p k).1 (pth (plc β) (WT β 8) p k).2 + stN (pth (plc β) (WT β 8) p k).2 (plc β (aR (plc β) (pth (plc β) (WT β 8) p k).1 (pth (plc β) (WT β 8) p k).2)) := by
        have s2' : FS (plc β) ((pth (plc β) (WT β 8) p k).1 - 2 ^ aR (plc β) (pth (plc β) (WT β 8) p k).1 (pth (plc β) (WT β 8) p k).2) (plc β (aR (plc β) (pth (plc β) (WT β 8) p k).1 (pth (plc β) (WT β 8) p k).2)) ≤ FS (plc β) (WT β 8) p := s2
        show FS (plc β) (WT β 8) p - FS (plc β) ((pth (plc β) (WT β 8) p k).1 - 2 ^ aR (plc β) (pth (plc β) (WT β 8) p k).1 (pth (plc β) (WT β 8) p k).2) (plc β (aR (plc β) (pth (plc β) (WT β 8) p k).1 (pth (plc β) (WT β 8) p k).2)) = _
        omega
      rw [e3] at ih2
      rw [o_add, o_succ]
      exact ih2
    by_cases q : x = -1
    · rw [if_pos q]
      exact go (Or.inl q)
    · have hk' := hk.resolve_left q
      have hx0 : 0 ≤ x.toInt := by
        have h1 : ¬ x.toInt = (-1 : Int32).toInt := fun z => q (Int32.toInt_inj.1 z)
        rw [show (-1 : Int32).toInt = -1 from rfl] at h1
        omega
      rw [if_neg q]
      by_cases q2 : (k : Int) = x.toInt + 1
      · rw [if_pos (by rw [Int32.lt_iff_toInt_lt, o_int (by omega)]; omega)]
        have ex : x + 1 = Int32.ofNat k := Int32.toInt_inj.1 (by rw [i_add, o_int (by omega), show (1 : Int32).toInt = 1 from rfl] <;> (try rw [show (1 : Int32).toInt = 1 from rfl]) <;> omega)
        unfold f_X11_round_184 rV
        rw [if_neg q, if_pos ex.symm, if_neg q, if_pos ⟨hx0, by omega⟩]
        refine ⟨_, rfl, ?_⟩
        rw [hy (x.toInt.toNat) (by omega)]
      · rw [if_neg (by rw [Int32.lt_iff_toInt_lt, o_int (by omega)]; omega)]
        exact go (Or.inr (by omega))
theorem rn_29 {sh : List gb_Sh} {β : ms_B} {p : Nat} {x : Int32} (hw : wfB β) (hp : p ≤ 24) (hx : -1 ≤ x.toInt) : ∀ (m k fuel : Nat) (g : gb_G), k + m = bN β → m < fuel → mR g β → gb_T (f_X11_round_29 sh fuel g (Int32.ofNat p) x (Int32.ofNat (WT β k)) (Int32.ofNat k)) (fun o => o.2 = rV β p x) := by
  have hn := hw.1
  intro m
  induction m with
  | zero =>
    intro k fuel g h hf hm
    obtain ⟨f, rfl⟩ : ∃ f, fuel = f + 1 := ⟨fuel - 1, by omega⟩
    have e : k = bN β := by omega
    subst e
    rw [f_X11_round_29, if_pos (by rw [hm.1.1]; exact Int32.le_refl _), ← WT_8 hw]
    obtain ⟨g1, e1, hm1, hQ1⟩ := lr_2 (sh := sh) hw 256 0 gb_N g (by omega) (by unfold gb_N; omega) hm (fun t ht => by omega)
    refine gb_T.bs (show f_X11_layRounds sh g (Int32.ofNat (WT β 8)) = some g1 from e1) ?_
    have z := rn_83 (sh := sh) hw hp hx hm1 hQ1 (pc (WT β 8)) 0 gb_N (-1) (by omega) (by have := pc_b (WT β 8); unfold gb_N; omega) (Or.inr (by omega)) (fun j hj => by omega)
    rw [show FS (plc β) (WT β 8) p - FS (plc β) (pth (plc β) (WT β 8) p 0).1 (pth (plc β) (WT β 8) p 0).2 = 0 from Nat.sub_self _] at z
    exact z
  | succ m ih =>
    intro k fuel g h hf hm
    obtain ⟨f, rfl⟩ : ∃ f, fuel = f + 1 := ⟨fuel - 1, by omega⟩
    obtain ⟨b1, b2, b3⟩ := WT_b (β := β) k (by omega)
    have hk : k < bN β := by omega
    rw [f_X11_round_29, if_neg (by rw [hm.1.1, o_le (by omega) (by omega)]; omega)]
    obtain ⟨o, eo, vo⟩ := cnt_m (sh := sh) hw hm.1 hm.2 hk
    have F := w_X11_countsOf eo
    have hm1 := mR_fr hw hm F (fun k => by omega) (by omega)
    refine gb_T.bs eo ?_
    have hcb := ((wfF_of (L := ms_lw β (bF β)) hw).2 k hk).1
    unfold f_X11_round_58
    rw [vo, fC_e hw hk, o_succ]
    have ih2 := ih (k + 1) f o.1 (by omega) (by omega) hm1
    rw [WT] at ih2
    by_cases q1 : 0 < fC β (ms_lw β (bF β)) k
    · rw [if_neg (by rw [show (0 : Int32) = Int32.ofNat 0 from rfl, o_le (by omega) (by omega)]; omega)]
      obtain ⟨-, -, -, d4⟩ := s_ad k (by omega) _ b2 b1
      rw [d4]
      rw [if_pos ⟨hk, q1⟩] at ih2
      exact ih2
    · rw [if_pos (by rw [show (0 : Int32) = Int32.ofNat 0 from rfl, o_le (by omega) (by omega)]; omega), Int32.or_zero]
      rw [if_neg (fun y => q1 y.2)] at ih2
      exact ih2
theorem p_round : ps_round gb_I := by
  intro sh g x1 x2 hI
  have h20 := hI.2.1.2
  obtain ⟨β, ⟨hw, hc, hm⟩, -⟩ := hI.2.2.2.2.2.2.2.2
  have hB : iB sh g β := ⟨hw, hc, hm⟩
  have hn := hw.1
  have h8 := pc_b (WT β 8)
  by_cases h1 : im 0 24 x1
  · have h1' := h1
    obtain ⟨p, hp, rfl⟩ := o_of (n := 25) h1
    refine ro_b (f2 := fun g1 => f_X11_round sh g1 _ _) (rV β p x2) hI ?_ (fun o => w_X10_round) (fun c k q => by unfold scr; omega) ?_ (fun g1 o => w_X11_round) (fun c k q => by unfold scr; omega)
    · unfold f_X10_round
      rw [within_t h1' rfl rfl, bt]
      obtain ⟨o, e, v, h10, h71⟩ := wlk (sh := sh) (p := p) hw hc (by omega)
      refine gb_T.bs e ?_
      unfold rV
      by_cases q : x2 = -1
      · rw [if_pos q, if_pos q]; exact gb_T.sm v
      · rw [if_neg q, if_neg q]
        unfold f_X6_walkedTo
        have em : f_J9_min_7cf53 sh o.1 8 (o.1.1 63 10) = some (o.1, Int32.ofNat (pc (WT β 8))) := by
          unfold f_J9_min_7cf53
          rw [h10]
          by_cases q : pc (WT β 8) < 8
          · rw [if_pos (by rw [show (8 : Int32) = Int32.ofNat 8 from rfl, o_lt (by omega) (by omega)]; exact q)]
          · rw [if_neg (by rw [show (8 : Int32) = Int32.ofNat 8 from rfl, o_lt (by omega) (by omega)]; exact q), show pc (WT β 8) = 8 by omega]; rfl
        rw [em, gb_bd_s]
        simp only []
        by_cases q2 : im 0 ((pc (WT β 8) : Int) - 1) x2
        · have q2' := q2
          obtain ⟨i, hi, rfl⟩ := o_of q2
          rw [within_t q2' rfl (n_pred (by omega)), bt, gb_ck_s (o_in (by omega) (by omega)), o_cl (by omega), o_int (by omega), Int.toNat_natCast, if_pos ⟨by omega, hi⟩, gb_bd_s]
          exact gb_T.sm (h71 i hi)
        · rw [within_f q2 rfl (n_pred (by omega)), bf, gb_bd_s, if_neg (fun z => q2 (by rw [im]; omega))]
          exact gb_T.sm rfl
    · intro g1 F1
      obtain ⟨-, -, hm1⟩ := iB_s hB F1
      have h20' : (gb_pi g1 77 0 0).1 77 20 = 0 := by
        rw [pi_n (by omega), (F1 77 20 (fun s => by unfold scr at s; omega)).1]; exact h20
      show gb_T (f_X11_round sh g1 _ _) _
      unfold f_X11_round
      rw [gb_let_s, in_t h1' rfl rfl, bt]
      by_cases q : -1 ≤ x2
      · rw [if_pos q]
        rw [Int32.le_iff_toInt_le, show (-1 : Int32).toInt = -1 from rfl] at q
        exact rn_29 (g := gb_pi g1 77 0 0) hw (by omega) q (bN β) 0 gb_N (by omega) (by unfold gb_N; omega) ⟨hm1, h20'⟩
      · rw [if_neg q]
        rw [Int32.le_iff_toInt_le, show (-1 : Int32).toInt = -1 from rfl] at q
        refine gb_T.sm ?_
        unfold rV
        rw [if_neg (fun z => by rw [z, show (-1 : Int32).toInt = -1 from rfl] at q; omega), if_neg (fun z => by omega)]
  · refine ⟨(g, -1), (gb_pi g 77 0 0, -1), ?_, ?_, rfl, I770 hI⟩
    · unfold f_X10_round
      rw [within_f h1 rfl rfl, bf]
    · show f_X11_round sh g _ _ = _
      unfold f_X11_round
      rw [gb_let_s, in_f h1 rfl rfl, bf]
