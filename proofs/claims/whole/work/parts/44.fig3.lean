/-! ===== figure, turned, pension, does, compare ===== -/
theorem ww_n (c : Nat → Nat) : ww none c = c := funext fun i => if_neg (by simp)
theorem fU_0 (β : ms_B) : fU β 0 = fP β := funext fun i => if_pos rfl
theorem fU_1 (β : ms_B) : fU β 1 = fB β := funext fun i => if_neg (by omega)
theorem fD_0 (β : ms_B) : fD β 0 = fB β := funext fun i => if_pos rfl
theorem fD_1 (β : ms_B) : fD β 1 = fP β := funext fun i => if_neg (by omega)
theorem wfF_1 {n : Nat} {c b p : Nat → Nat} (hw : wfF n c b p) : ∀ i, i < n → c i ≤ 99 ∧ 1 ≤ p i ∧ p i ≤ 12 ∧ 1 ≤ b i ∧ b i ≤ 12 := fun i hi => by
  have := hw.2 i hi; omega
theorem wfF_2 {n : Nat} {c b p : Nat → Nat} (hw : wfF n c b p) : ∀ i, i < n → c i ≤ 99 ∧ 1 ≤ b i ∧ b i ≤ 12 ∧ 1 ≤ p i ∧ p i ≤ 12 := fun i hi => by
  have := hw.2 i hi; omega
theorem p_figure : ps_figure gb_I := by
  intro sh g x1 x2 hI
  have h20 := hI.2.1.2
  obtain ⟨β, ⟨hw, hc, hm⟩, -⟩ := hI.2.2.2.2.2.2.2.2
  have hB : iB sh g β := ⟨hw, hc, hm⟩
  have hn := hw.1
  by_cases h1 : im 0 3 x1
  · by_cases h2 : im 0 1 x2
    · obtain ⟨r, hr, rfl⟩ := o_of (n := 4) h1
      have hF := wfF_of (L := ms_lw β (bF β)) hw
      refine ro_b (f2 := fun g1 => f_X11_figure sh g1 _ _) (if x2 = 0 then Int64.ofNat (FG r (bN β) (fC β (ms_lw β (bF β))) (fP β) (fB β)).1 else Int64.ofNat (FG r (bN β) (fC β (ms_lw β (bF β))) (fP β) (fB β)).2) hI ?_ (fun o => w_X10_figure) (fun c k q => by unfold scr; omega) ?_ (fun g1 o => w_X11_figure) (fun c k q => by unfold scr; omega)
      · unfold f_X10_figure
        obtain ⟨q2, e2, hL⟩ := lif_c hw hc
        rw [within_t h1 rfl rfl, bt, within_t h2 rfl rfl, bt]
        refine gb_T.bs e2 ?_
        obtain ⟨g3, e3, v3⟩ := ld (sh := sh) (b := 1) (by omega) hw hc hL
        refine gb_T.bs e3 ?_
        unfold f_X1_byRule
        obtain ⟨g4, e4, a0, a1, -⟩ := rk (sh := sh) (g := g3) (a2 := 59) (a3 := 58) (b4 := 61) (r := r) (by omega) hF (wfF_1 hF) v3 (fun i hi q => ⟨((v3.2 i hi).2 q).2, ((v3.2 i hi).2 q).1⟩) (by omega)
        rw [e4, gb_bd_s, gb_bd_s]
        unfold f_X2_side
        by_cases q : x2 = 0
        · rw [if_pos q, if_pos q, gb_bd_s]; exact gb_T.sm a0
        · rw [if_neg q, if_neg q, gb_bd_s]; exact gb_T.sm a1
      · intro g1 F1
        obtain ⟨-, -, hm1⟩ := iB_s hB F1
        have h20' : (gb_pi g1 77 0 0).1 77 20 = 0 := by
          rw [pi_n (by omega), (F1 77 20 (fun s => by unfold scr at s; omega)).1]; exact h20
        show gb_T (f_X11_figure sh g1 _ _) _
        unfold f_X11_figure
        rw [gb_let_s, in_t h1 rfl rfl, bt, in_t h2 rfl rfl, bt]
        obtain ⟨g4, e4, a0, a1⟩ := fg_m (sh := sh) (g := gb_pi g1 77 0 0) (r := r) (ch := 0) (w := none) hw (by omega) (by omega) (fun i q => by cases q) hm1 h20'
        rw [ww_n, fU_0, fD_0] at a0 a1
        refine gb_T.bs e4 ?_
        by_cases q : x2 = 0
        · rw [if_pos q, if_pos q]; exact gb_T.sm a0
        · rw [if_neg q, if_neg q]; exact gb_T.sm a1
    · refine ⟨(g, -1), (gb_pi g 77 0 0, -1), ?_, ?_, rfl, I770 hI⟩
      · unfold f_X10_figure
        rw [within_t h1 rfl rfl, bt, within_f h2 rfl rfl, bf]; rfl
      · show f_X11_figure sh g _ _ = _
        unfold f_X11_figure
        rw [gb_let_s, in_t h1 rfl rfl, bt, in_f h2 rfl rfl, bf]; rfl
  · refine ⟨(g, -1), (gb_pi g 77 0 0, -1), ?_, ?_, rfl, I770 hI⟩
    · unfold f_X10_figure
      rw [within_f h1 rfl rfl, bf]; rfl
    · show f_X11_figure sh g _ _ = _
      unfold f_X11_figure
      rw [gb_let_s, in_f h1 rfl rfl, bf]; rfl
theorem p_turned : ps_turned gb_I := by
  intro sh g x1 x2 hI
  have h20 := hI.2.1.2
  obtain ⟨β, ⟨hw, hc, hm⟩, -⟩ := hI.2.2.2.2.2.2.2.2
  have hB : iB sh g β := ⟨hw, hc, hm⟩
  have hn := hw.1
  by_cases h1 : im 0 3 x1
  · by_cases h2 : im 0 1 x2
    · obtain ⟨r, hr, rfl⟩ := o_of (n := 4) h1
      have hF := wfF_of (L := ms_lw β (bF β)) hw
      obtain ⟨A, hA⟩ : ∃ A, A = FG r (bN β) (fC β (ms_lw β (bF β))) (fP β) (fB β) := ⟨_, rfl⟩
      obtain ⟨B, hB'⟩ : ∃ B, B = FG r (bN β) (fC β (ms_lw β (bF β))) (fB β) (fP β) := ⟨_, rfl⟩
      have bA := FG_b (r := r) hn (wfF_1 hF)
      have bB := FG_b (r := r) hn (wfF_2 hF)
      rw [← hA] at bA
      rw [← hB'] at bB
      have p1 : A.1 * B.1 ≤ 263450880 * 263450880 := Nat.mul_le_mul bA.1 bB.1
      have p2 : A.2 * B.2 ≤ 21954240 * 21954240 := Nat.mul_le_mul bA.2.1 bB.2.1
      have p3 : 0 < A.2 * B.2 := Nat.mul_pos bA.2.2 bB.2.2
      refine ro_b (f2 := fun g1 => f_X11_turned sh g1 _ _) (if x2 = 0 then Int64.ofNat (red (A.1 * B.1) (A.2 * B.2)).1 else Int64.ofNat (red (A.1 * B.1) (A.2 * B.2)).2) hI ?_ (fun o => w_X10_turned) (fun c k q => by unfold scr; omega) ?_ (fun g1 o => w_X11_turned) (fun c k q => by unfold scr; omega)
      · unfold f_X10_turned
        obtain ⟨q2, e2, hL⟩ := lif_c hw hc
        rw [within_t h1 rfl rfl, bt, within_t h2 rfl rfl, bt]
        refine gb_T.bs e2 ?_
        obtain ⟨g3, e3, v3⟩ := ld (sh := sh) (b := 1) (by omega) hw hc hL
        refine gb_T.bs e3 ?_
        unfold f_X1_turnedByRule f_X2_multiply
        obtain ⟨g4, e4, a0, a1, a2⟩ := rk (sh := sh) (g := g3) (a2 := 59) (a3 := 58) (b4 := 61) (r := r) (by omega) hF (wfF_1 hF) v3 (fun i hi q => ⟨((v3.2 i hi).2 q).2, ((v3.2 i hi).2 q).1⟩) (by omega)
        have v4 : cvF g4 (bN β) (fC β (ms_lw β (bF β))) (fB β) (fP β) := cvF_fr v3 fun _ _ _ => by rw [a2]
        obtain ⟨g5, e5, b0, b1, b2⟩ := rk (sh := sh) (g := g4) (a2 := 58) (a3 := 59) (b4 := 62) (r := r) (by omega) hF (wfF_2 hF) v4 (fun i hi q => (v4.2 i hi).2 q) (by omega)
        have F5 := w_X1_reckon e5
        rw [e4, gb_bd_s, e5, gb_bd_s, (F5 61 0 (by omega)).2.1, (F5 61 1 (by omega)).2.1, a0, a1, b0, b1, ← hA, ← hB', m64, m64, put_N (by omega) p3 (by omega), gb_bd_s, gb_bd_s, gb_bd_s]
        unfold f_X2_side
        by_cases q : x2 = 0
        · rw [if_pos q, if_pos q, gb_bd_s]; exact gb_T.sm (by show _ = _; rw [pj_n (by omega), pj_e])
        · rw [if_neg q, if_neg q, gb_bd_s]; exact gb_T.sm (by simp only [pj_e])
      · intro g1 F1
        obtain ⟨-, -, hm1⟩ := iB_s hB F1
        have h20' : (gb_pi g1 77 0 0).1 77 20 = 0 := by
          rw [pi_n (by omega), (F1 77 20 (fun s => by unfold scr at s; omega)).1]; exact h20
        show gb_T (f_X11_turned sh g1 _ _) _
        unfold f_X11_turned
        rw [gb_let_s, in_t h1 rfl rfl, bt, in_t h2 rfl rfl, bt]
        obtain ⟨g4, e4, a0, a1⟩ := fg_m (sh := sh) (g := gb_pi g1 77 0 0) (r := r) (ch := 0) (w := none) hw (by omega) (by omega) (fun i q => by cases q) hm1 h20'
        rw [ww_n, fU_0, fD_0, ← hA] at a0 a1
        have F4 := w_X11_figureBy e4
        have hm4 : mvB (g4.1 79) β := mvB_fr hm1 hw fun k _ => (F4 79 k (by omega)).1
        obtain ⟨g5, e5, b0, b1⟩ := fg_m (sh := sh) (g := g4) (r := r) (ch := 1) (w := none) hw (by omega) (by omega) (fun i q => by cases q) hm4 (by rw [(F4 77 20 (by omega)).1]; exact h20')
        rw [ww_n, fU_1, fD_1, ← hB'] at b0 b1
        refine gb_T.bs e4 ?_
        refine gb_T.bs e5 ?_
        rw [a0, a1, b0, b1, m64, m64, low_N (by omega) p3 (by omega), gb_bd_s]
        by_cases q : x2 = 0
        · rw [if_pos q, if_pos q]; exact gb_T.sm (by show _ = _; rw [pj_n (by omega), pj_e])
        · rw [if_neg q, if_neg q]; exact gb_T.sm (by simp only [pj_e])
    · refine ⟨(g, -1), (gb_pi g 77 0 0, -1), ?_, ?_, rfl, I770 hI⟩
      · unfold f_X10_turned
        rw [within_t h1 rfl rfl, bt, within_f h2 rfl rfl, bf]; rfl
      · show f_X11_turned sh g _ _ = _
        unfold f_X11_turned
        rw [gb_let_s, in_t h1 rfl rfl, bt, in_f h2 rfl rfl, bf]; rfl
  · refine ⟨(g, -1), (gb_pi g 77 0 0, -1), ?_, ?_, rfl, I770 hI⟩
    · unfold f_X10_turned
      rw [within_f h1 rfl rfl, bf]; rfl
    · show f_X11_turned sh g _ _ = _
      unfold f_X11_turned
      rw [gb_let_s, in_f h1 rfl rfl, bf]; rfl
/-! so many times the figure -/
theorem FG_TH {n K : Nat} {c b p : Nat → Nat} (hw : wfF n c b p) (hK : K ≤ 1000) : (Int64.ofNat K * Int64.ofNat (FG 0 n c p b).1) / Int64.ofNat (FG 0 n c p b).2 = Int64.ofNat (TH n c b p K) := by
  have hb := FG_b (r := 0) hw.1 (wfF_1 hw)
  have hp : K * (FG 0 n c p b).1 ≤ 1000 * 263450880 := Nat.mul_le_mul hK hb.1
  rw [m64, l_div (by omega) (by omega)]
  unfold FG TH
  rw [fs_0]
  by_cases q : nsum (fun i => c i * b i) n = 0
  · rw [if_pos q, if_pos q, Nat.mul_zero, Nat.zero_div]
  · rw [if_neg q, if_neg q, red_d (by omega)]
theorem FG_z {n : Nat} {c b p : Nat → Nat} (hw : wfF n c b p) : (FG 0 n c p b).1 = 0 ↔ nsum c n = 0 := by
  have hz := fs_z (r := 0) (c := c) (u := p) (d := b) n fun i hi => (hw.2 i hi).2.1
  have hz2 := fs_z (r := 0) (c := c) (u := b) (d := p) n fun i hi => (hw.2 i hi).2.2.2.1
  rw [fs_0] at hz hz2
  have hz' : nsum (fun i => c i * b i) n = 0 ↔ nsum c n = 0 := hz
  have hz2' : nsum (fun i => c i * p i) n = 0 ↔ nsum c n = 0 := hz2
  unfold FG
  rw [fs_0]
  by_cases q : nsum (fun i => c i * b i) n = 0
  · rw [if_pos q]; exact ⟨fun _ => hz'.1 q, fun _ => rfl⟩
  · rw [if_neg q]
    constructor
    · intro z
      have x := red_x (A := nsum (fun i => c i * p i) n) (B := nsum (fun i => c i * b i) n)
      have z' : (red (nsum (fun i => c i * p i) n) (nsum (fun i => c i * b i) n)).1 = 0 := z
      rw [z', Nat.zero_mul] at x
      have rp := red_p (A := nsum (fun i => c i * p i) n) (B := nsum (fun i => c i * b i) n) (by omega)
      rcases Nat.eq_zero_or_pos (nsum (fun i => c i * p i) n) with y | y
      · exact hz2'.1 y
      · have := Nat.mul_pos y rp; omega
    · intro z; exact absurd (hz'.2 z) q
noncomputable def PN (β : ms_B) : Int32 := if nsum (fC β (ms_lw β (bF β))) (bN β) = 0 then 100 else Int32.ofNat (TH (bN β) (fC β (ms_lw β (bF β))) (fB β) (fP β) 100)
theorem pn_m {sh : List gb_Sh} {g : gb_G} {β : ms_B} (hw : wfB β) (hm : mvB (g.1 79) β) (h20 : g.1 77 20 = 0) : gb_T (f_X11_pensionNow sh g) (fun o => o.2 = PN β) := by
  have hF := wfF_of (L := ms_lw β (bF β)) hw
  have hb := FG_b (r := 0) hF.1 (wfF_1 hF)
  obtain ⟨g4, e4, a0, a1⟩ := fg_m (sh := sh) (g := g) (r := 0) (ch := 0) (w := none) hw (by omega) (by omega) (fun i q => by cases q) hm h20
  rw [ww_n, fU_0, fD_0] at a0 a1
  unfold f_X11_pensionNow PN
  refine gb_T.bs e4 ?_
  rw [a0, a1]
  by_cases q : nsum (fC β (ms_lw β (bF β))) (bN β) = 0
  · rw [if_pos q, if_pos ((z64 (by omega)).2 ((FG_z hF).2 q))]; exact gb_T.sm rfl
  · rw [if_neg q, if_neg (fun z => q ((FG_z hF).1 ((z64 (by omega)).1 z))), gb_nzl_s (fun z => by have := l_eq0 (by omega) z; omega)]
    refine gb_T.sm ?_
    show Int64.toInt32 _ = _
    rw [show (100 : Int64) = Int64.ofNat 100 from rfl, FG_TH hF (by omega), i32]
theorem pn_c {sh : List gb_Sh} {g : gb_G} {b : Nat} {β : ms_B} {q2 : Option Nat} (hb : b + 5 < 53) (hw : wfB β) (hc : cvB sh g b β) (hL : lq sh g q2 (ms_lw β (bF β))) : gb_T (f_X1_load sh g b q2) (fun o => f_X1_hundredths sh o = some (o, PN β)) := by
  obtain ⟨g3, e3, v3⟩ := ld (sh := sh) hb hw hc hL
  exact ⟨g3, e3, hu_a (wfF_of hw) v3⟩
theorem p_pension : ps_pension gb_I := by
  intro sh g hI
  have h20 := hI.2.1.2
  obtain ⟨β, ⟨hw, hc, hm⟩, -⟩ := hI.2.2.2.2.2.2.2.2
  have hB : iB sh g β := ⟨hw, hc, hm⟩
  refine ro_b (f2 := fun g1 => f_X11_pension sh g1) (PN β) hI ?_ (fun o => w_X10_pension) (fun c k q => by unfold scr; omega) ?_ (fun g1 o => w_X11_pension) (fun c k q => by unfold scr; omega)
  · unfold f_X10_pension
    obtain ⟨q2, e2, hL⟩ := lif_c hw hc
    refine gb_T.bs e2 ?_
    obtain ⟨g3, e3, v3⟩ := pn_c (sh := sh) (b := 1) (by omega) hw hc hL
    refine gb_T.bs e3 ?_
    rw [v3, gb_bd_s]
    exact gb_T.sm rfl
  · intro g1 F1
    obtain ⟨-, -, hm1⟩ := iB_s hB F1
    have h20' : (gb_pi g1 77 0 0).1 77 20 = 0 := by
      rw [pi_n (by omega), (F1 77 20 (fun s => by unfold scr at s; omega)).1]; exact h20
    show gb_T (f_X11_pension sh g1) _
    unfold f_X11_pension
    rw [gb_let_s]
    obtain ⟨o, e, v⟩ := pn_m (sh := sh) (g := gb_pi g1 77 0 0) hw hm1 h20'
    refine gb_T.bs e ?_
    exact gb_T.sm v
theorem tho_m {sh : List gb_Sh} {g : gb_G} {β : ms_B} {w : Option Nat} (hw : wfB β) (hw' : ∀ i, w = some i → i < 8) (hm : mvB (g.1 79) β) (h20 : g.1 77 20 = 0) : gb_T (f_X11_thousandths sh g (wi w)) (fun o => o.2 = Int32.ofNat (TH (bN β) (ww w (fC β (ms_lw β (bF β)))) (fB β) (fP β) 1000)) := by
  have hF0 := wfF_of (L := ms_lw β (bF β)) hw
  have hF : wfF (bN β) (ww w (fC β (ms_lw β (bF β)))) (fB β) (fP β) := ⟨hF0.1, fun i hi => by
    have := hF0.2 i hi
    unfold ww
    split
    · omega
    · omega⟩
  have hb := FG_b (r := 0) hF.1 (wfF_1 hF)
  obtain ⟨g4, e4, a0, a1⟩ := fg_m (sh := sh) (g := g) (r := 0) (ch := 0) (w := w) hw (by omega) (by omega) hw' hm h20
  rw [fU_0, fD_0] at a0 a1
  unfold f_X11_thousandths
  refine gb_T.bs e4 ?_
  rw [a0, a1, gb_nzl_s (fun z => by have := l_eq0 (by omega) z; omega)]
  refine gb_T.sm ?_
  show Int64.toInt32 _ = _
  rw [show (1000 : Int64) = Int64.ofNat 1000 from rfl, FG_TH hF (by omega), i32]
theorem p_does : ps_does gb_I := by
  intro sh g x1 hI
  have h20 := hI.2.1.2
  obtain ⟨β, ⟨hw, hc, hm⟩, -⟩ := hI.2.2.2.2.2.2.2.2
  have hB : iB sh g β := ⟨hw, hc, hm⟩
  have hn := hw.1
  by_cases h1 : im 0 ((bN β : Int) - 1) x1
  · obtain ⟨j, hj, rfl⟩ := o_of h1
    have hF0 := wfF_of (L := ms_lw β (bF β)) hw
    have hF : wfF (bN β) (ww (some j) (fC β (ms_lw β (bF β)))) (fB β) (fP β) := ⟨hF0.1, fun i hi => by
      have := hF0.2 i hi
      unfold ww
      split
      · omega
      · omega⟩
    refine ro_b (f2 := fun g1 => f_X11_does sh g1 _) (Int32.ofNat (TH (bN β) (fC β (ms_lw β (bF β))) (fB β) (fP β) 1000) - Int32.ofNat (TH (bN β) (ww (some j) (fC β (ms_lw β (bF β)))) (fB β) (fP β) 1000)) hI ?_ (fun o => w_X10_does) (fun c k q => by unfold scr; omega) ?_ (fun g1 o => w_X11_does) (fun c k q => by unfold scr; omega)
    · unfold f_X10_does
      obtain ⟨q2, e2, hL⟩ := lif_c hw hc
      rw [has_t hn hc.1 h1, bt]
      refine gb_T.bs e2 ?_
      obtain ⟨g3, e3, v3⟩ := ld (sh := sh) (b := 1) (by omega) hw hc hL
      refine gb_T.bs e3 ?_
      rw [th_a hF0 v3, gb_bd_s, gb_ck_s (o_in (by omega) (by omega)), gb_let_s, o_cl (by omega)]
      simp only []
      have v4 : cvF (gb_pi g3 60 j 0) (bN β) (ww (some j) (fC β (ms_lw β (bF β)))) (fB β) (fP β) := by
        refine ⟨(pi_n (by omega)).trans v3.1, fun i hi => ?_⟩
        unfold ww
        by_cases e : i = j
        · rw [if_pos (by rw [e]), e, pi_e]
          exact ⟨rfl, fun z => by omega⟩
        · rw [if_neg (fun z => e (Option.some.inj z).symm), pi_n (by omega), pi_n (by omega), pi_n (by omega)]
          exact v3.2 i hi
      rw [th_a hF v4, gb_bd_s]
      exact gb_T.sm rfl
    · intro g1 F1
      obtain ⟨-, -, hm1⟩ := iB_s hB F1
      have h20' : (gb_pi g1 77 0 0).1 77 20 = 0 := by
        rw [pi_n (by omega), (F1 77 20 (fun s => by unfold scr at s; omega)).1]; exact h20
      show gb_T (f_X11_does sh g1 _) _
      unfold f_X11_does
      rw [gb_let_s, isGood_t (g := gb_pi g1 77 0 0) (n := bN β) hn hm1.1 h1, bt]
      obtain ⟨o, e, v⟩ := tho_m (sh := sh) (g := gb_pi g1 77 0 0) (w := none) hw (fun i q => by cases q) hm1 h20'
      have F2 := w_X11_thousandths e
      refine gb_T.bs e ?_
      obtain ⟨o2, e2, v2⟩ := tho_m (sh := sh) (g := o.1) (w := some j) hw (fun i q => by have := Option.some.inj q; omega) (mvB_fr hm1 hw fun k _ => (F2 79 k (by omega)).1) (by rw [(F2 77 20 (by omega)).1]; exact h20')
      refine gb_T.bs e2 ?_
      refine gb_T.sm ?_
      show o.2 - o2.2 = _
      rw [v, v2, ww_n]
  · refine ⟨(g, -100000), (gb_pi g 77 0 0, -100000), ?_, ?_, rfl, I770 hI⟩
    · unfold f_X10_does
      rw [has_f hn hc.1 h1, bf]
    · show f_X11_does sh g _ = _
      unfold f_X11_does
      rw [gb_let_s, isGood_f (g := gb_pi g 77 0 0) (n := bN β) hn hm.1 h1, bf]
def bFor (β : ms_B) (F : Int32) : ms_B := (bN β, bT β, bP β, bO β, bH β, bHe β, bTe β, bL β, F)
theorem p_compare : ps_compare gb_I := by
  intro sh g x1 hI
  have h20 := hI.2.1.2
  obtain ⟨β, ⟨hw, hc, hm⟩, -⟩ := hI.2.2.2.2.2.2.2.2
  have hB : iB sh g β := ⟨hw, hc, hm⟩
  have hn := hw.1
  have hl6 := hw.2.2.2.1
  by_cases h1 : im (-1) (((bL β).length : Int) - 1) x1
  · have hwF : wfB (bFor β x1) := by
      obtain ⟨w0, w1, w2, w3, w4, w5, w6, w7, w8, w9, w10, w11, w12⟩ := hw
      exact ⟨w0, w1, w2, w3, w4, h1, w6, w7, w8, w9, w10, w11, w12⟩
    obtain ⟨q2, e2, hL⟩ := lawAt_c hw hc h1
    obtain ⟨g3, e3, v3⟩ := ld (sh := sh) (b := 1) (by omega) hw hc hL
    have F3 := w_X1_load e3
    have hF := wfF_of (L := ms_lw β x1) hw
    have r1 : f_X10_compare sh g x1 = some (g3, Int32.ofNat (TH (bN β) (fC β (ms_lw β x1)) (fB β) (fP β) 1000)) := by
      have k24 : f_X10_compare_24 sh g x1 = some (g3, Int32.ofNat (TH (bN β) (fC β (ms_lw β x1)) (fB β) (fP β) 1000)) := by
        unfold f_X10_compare_24
        rw [e2, gb_bd_s, e3, gb_bd_s, th_a hF v3, gb_bd_s]
      unfold f_X10_compare
      by_cases q : x1 = -1
      · rw [if_pos q]; exact k24
      · have h2 : ¬ x1.toInt = (-1 : Int32).toInt := fun z => q (Int32.toInt_inj.1 z)
        rw [show (-1 : Int32).toInt = -1 from rfl] at h2
        rw [if_neg q, hc.2.2.2.2.2.2.2.1, within_t (lo := 0) (hi := ((bL β).length : Int) - 1) ⟨by have := h1.1; omega, h1.2⟩ rfl (n_pred (by omega)), bt]
        exact k24
    obtain ⟨g4, hg4⟩ : ∃ q, q = gb_pi (gb_pi g3 77 0 0) 79 4 x1 := ⟨_, rfl⟩
    have hm3 : mvB (g3.1 79) β := mvB_fr hm hw fun k _ => (F3 79 k (by omega)).1
    have hm4 : mvB (g4.1 79) (bFor β x1) := by
      obtain ⟨m0, m1, m2, m3, m4, m5, m6, m7, m8, m9⟩ := hm3
      obtain ⟨w0, w1, w2, w3, w4, w5, w6, w7, w8, w9, w10, w11, w12⟩ := hw
      have f : ∀ k, ¬ k = 4 → g4.1 79 k = g3.1 79 k := fun k q => by rw [hg4, pi_n (by omega), pi_n (by omega)]
      refine ⟨(f _ (by omega)).trans m0, fun i hi => ?_, (f _ (by omega)).trans m2, fun p i hp hi => (f _ (by omega)).trans (m3 p i hp hi), (f _ (by omega)).trans m4, fun j hj => (f _ (by omega)).trans (m5 j hj), fun j hj => (f _ (by omega)).trans (m6 j hj), (f _ (by omega)).trans m7, fun k lw hk => mvL_fr (m8 k lw hk) (w4 lw (List.mem_of_getElem? hk)).1 fun q hq => f _ (by omega), by rw [hg4, pi_e]; rfl⟩
      obtain ⟨a0, a1, a2, a3, a4, a5, a6⟩ := m1 i hi
      exact ⟨(f _ (by omega)).trans a0, (f _ (by omega)).trans a1, (f _ (by omega)).trans a2, (f _ (by omega)).trans a3, (f _ (by omega)).trans a4, (f _ (by omega)).trans a5, (f _ (by omega)).trans a6⟩
    have h204 : g4.1 77 20 = 0 := by rw [hg4, pi_n (by omega), pi_n (by omega), (F3 77 20 (by omega)).1]; exact h20
    obtain ⟨o, e, v⟩ := tho_m (sh := sh) (g := g4) (w := none) hwF (fun i q => by cases q) hm4 h204
    rw [ww_n] at v
    have F5 := w_X11_thousandths e
    have r2 : f_X11_compare sh g3 x1 = some (gb_pi o.1 79 4 (g3.1 79 4), o.2) := by
      unfold f_X11_compare
      rw [gb_let_s, isLaw_t (g := gb_pi g3 77 0 0) (n := (bL β).length) (by omega) (by rw [r79]; exact hm3.2.2.2.2.2.2.2.1) h1, bt, gb_let_s, ← hg4, show f_X11_thousandths sh g4 (-1) = some o from e, gb_bd_s, gb_let_s]
      rfl
    refine ⟨_, _, r1, r2, v.symm, ?_⟩
    refine gb_I_fr hI fun c k q => ?_
    have q' : ¬ scr c k := q
    show eqc g (gb_pi o.1 79 4 (g3.1 79 4)) c k
    by_cases ec : c = 79 ∧ k = 4
    · obtain ⟨e1, e2⟩ := ec
      subst e1 e2
      have z := F5 79 4 (by omega)
      have z3 := F3 79 4 (by omega)
      refine ⟨by rw [pi_e]; exact z3.1, ?_, ?_⟩
      · show o.1.2.1 79 4 = _
        rw [z.2.1, hg4]; exact z3.2.1
      · show o.1.2.2 79 4 = _
        rw [z.2.2, hg4]; exact z3.2.2
    · unfold scr at q'
      have z := F5 c k (by omega)
      have z3 := F3 c k (by omega)
      refine ⟨?_, ?_, ?_⟩
      · rw [pi_n ec, z.1, hg4, pi_n ec, pi_n (by omega)]; exact z3.1
      · show o.1.2.1 c k = _
        rw [z.2.1, hg4]; exact z3.2.1
      · show o.1.2.2 c k = _
        rw [z.2.2, hg4]; exact z3.2.2
  · refine ⟨(g, -1), (gb_pi g 77 0 0, -1), ?_, ?_, rfl, I770 hI⟩
    · unfold f_X10_compare
      rw [if_neg (fun z => h1 (by rw [z, im, show (-1 : Int32).toInt = -1 from rfl]; omega)), hc.2.2.2.2.2.2.2.1, within_f (lo := 0) (hi := ((bL β).length : Int) - 1) (fun z => h1 ⟨by have := z.1; omega, z.2⟩) rfl (n_pred (by omega)), bf]
    · show f_X11_compare sh g _ = _
      unfold f_X11_compare
      rw [gb_let_s, isLaw_f (g := gb_pi g 77 0 0) (n := (bL β).length) (by omega) (by rw [r79]; exact hm.2.2.2.2.2.2.2.1) h1, bf]
