/-! ===== law() ===== -/
def gb_I2 (sh : List gb_Sh) (g : gb_G) : Prop := gb_I sh g ∧ g.1 51 0 = 0
theorem gI_re {sh : List gb_Sh} {g g2 : gb_G} (hI : gb_I sh g) (F : ∀ c k, (1 ≤ c ∧ c ≤ 6) ∨ c = 12 ∨ c = 13 ∨ c = 14 ∨ (18 ≤ c ∧ c ≤ 37) ∨ 105 ≤ c ∨ (c = 77 ∧ (k = 8 ∨ k = 55)) ∨ (79 ≤ c ∧ c ≤ 81) ∨ (c = 82 ∧ k < 432) ∨ c = 83 ∨ (92 ≤ c ∧ c ≤ 94) ∨ c = 102 ∨ c = 104 → eqc g g2 c k) (h20 : g2.1 77 20 = 0) (hM : iM g2) (hR : iR g2) (hT : iT g2) : gb_I sh g2 := by
  obtain ⟨hS, ⟨h1, h2⟩, h3, h4, h5, h6, h7, h8, β, h9, h10⟩ := hI
  exact ⟨hS, ⟨mvC_fr h1 fun c k q => F c k (by omega), h20⟩, iF_fr h3 fun c k q => F c k (by omega), hM, hR, hT, iD_fr h7 fun c k q => F c k (by omega), iI_fr h8 fun c k q => F c k (by omega), β, iB_fr h9 fun c k q => F c k (by omega), iU_fr h9.1.1 h10 fun c k q => F c k (by omega)⟩
theorem l110 {sh : List gb_Sh} {a m : Nat} (hm : m ≤ 12) (ha : a + 900 ≤ 5520) : ∀ (d i F : Nat) (g : gb_G), i + d = 8 * m → d < F → g.1 77 21 = Int32.ofNat m → ∃ g', f_X11_law_110 sh F g (Int32.ofNat a) (Int32.ofNat i) = f_X11_law_145 sh gb_N g' (Int32.ofNat a) 0 ∧ (∀ j, i ≤ j → j < 8 * m → g'.1 79 (a + 2 + j) = g.1 87 j) ∧ ∀ c k, ¬ (c = 79 ∧ a + 2 + i ≤ k ∧ k < a + 2 + 8 * m) → eqc g g' c k := by
  intro d
  induction d with
  | zero =>
    intro i F g hi hF h21
    obtain ⟨f, rfl⟩ : ∃ f, F = f + 1 := ⟨F - 1, by omega⟩
    refine ⟨g, ?_, fun j h1 h2 => by omega, fun c k _ => ⟨rfl, rfl, rfl⟩⟩
    rw [f_X11_law_110, h21, show (8 : Int32) = Int32.ofNat 8 from rfl, o_mul, if_pos (by rw [o_le (by omega) (by omega)]; omega)]
  | succ d ih =>
    intro i F g hi hF h21
    obtain ⟨f, rfl⟩ : ∃ f, F = f + 1 := ⟨F - 1, by omega⟩
    obtain ⟨g', e1, e2, e3⟩ := ih (i + 1) f (gb_pi g 79 (a + 2 + i) (g.1 87 i)) (by omega) (by omega) ((pi_n (by omega)).trans h21)
    refine ⟨g', ?_, fun j h1 h2 => ?_, fun c k q => eqc_tr (eqpi (by omega)) (e3 c k (by omega))⟩
    · rw [f_X11_law_110, h21, show (8 : Int32) = Int32.ofNat 8 from rfl, o_mul, if_neg (by rw [o_le (by omega) (by omega)]; omega), show (2 : Int32) = Int32.ofNat 2 from rfl, o_add, o_add, gb_ck_s (o_in (by omega) (by omega)), gb_ck_s (o_in (by omega) (by omega)), o_cl (by omega), o_cl (by omega), gb_let_s, o_succ]
      exact e1
    · by_cases z : j = i
      · subst z
        exact (e3 79 (a + 2 + j) (by omega)).1.trans pi_e
      · exact (e2 j (by omega) h2).trans (pi_n (by omega))
theorem l145 {sh : List gb_Sh} {a z k0 : Nat} (ha : a + 900 ≤ 5520) (ha3 : 3 < a) (hz : z ≤ 400) (hk : k0 < 6) : ∀ (d i F : Nat) (g : gb_G), i + d = z → d < F → g.1 77 23 = Int32.ofNat z → g.1 79 3 = Int32.ofNat k0 → ∃ o, f_X11_law_145 sh F g (Int32.ofNat a) (Int32.ofNat i) = some (o, Int32.ofNat k0) ∧ (∀ j, i ≤ j → j < z → o.1 79 (a + 98 + 2 * j) = g.1 88 j ∧ o.1 79 (a + 98 + 2 * j + 1) = g.1 89 j) ∧ o.1 79 3 = Int32.ofNat (k0 + 1) ∧ o.1 77 1 = 0 ∧ ∀ c k, ¬ (c = 79 ∧ (k = 3 ∨ (a + 98 + 2 * i ≤ k ∧ k < a + 98 + 2 * z))) → ¬ (c = 77 ∧ k = 1) → eqc g o c k := by
  intro d
  induction d with
  | zero =>
    intro i F g hi hF h23 h3
    obtain ⟨f, rfl⟩ : ∃ f, F = f + 1 := ⟨F - 1, by omega⟩
    refine ⟨gb_pi (gb_pi g 79 3 (Int32.ofNat (k0 + 1))) 77 1 0, ?_, fun j h1 h2 => by omega, (pi_n (by omega)).trans pi_e, pi_e, fun c k q1 q2 => eqc_tr (eqpi (by omega)) (eqpi (by omega))⟩
    rw [f_X11_law_145, h23, if_pos (by rw [o_le (by omega) (by omega)]; omega), gb_let_s, h3, o_succ, show (gb_pi g 79 3 (Int32.ofNat (k0 + 1))).1 79 3 = Int32.ofNat (k0 + 1) from pi_e, ← o_succ, Int32.add_sub_cancel, te_p (by rw [o_int (by omega)]; omega), gb_bd_s]
  | succ d ih =>
    intro i F g hi hF h23 h3
    obtain ⟨f, rfl⟩ : ∃ f, F = f + 1 := ⟨F - 1, by omega⟩
    obtain ⟨o, e1, e2, e3, e4, e5⟩ := ih (i + 1) f (gb_pi (gb_pi g 79 (a + 98 + 2 * i) (g.1 88 i)) 79 (a + 98 + 2 * i + 1) (g.1 89 i)) (by omega) (by omega) ((pi_n (by omega)).trans ((pi_n (by omega)).trans h23)) ((pi_n (by omega)).trans ((pi_n (by omega)).trans h3))
    refine ⟨o, ?_, fun j h1 h2 => ?_, e3, e4, fun c k q1 q2 => eqc_tr (eqpi (by omega)) (eqc_tr (eqpi (by omega)) (e5 c k (by omega) q2))⟩
    · rw [f_X11_law_145, h23, if_neg (by rw [o_le (by omega) (by omega)]; omega), show (98 : Int32) = Int32.ofNat 98 from rfl, show (2 : Int32) = Int32.ofNat 2 from rfl, o_mul, o_add, o_add, gb_ck_s (o_in (by omega) (by omega)), gb_ck_s (o_in (by omega) (by omega)), o_cl (by omega), o_cl (by omega), gb_let_s, gb_ck_s (o_in (by omega) (by omega)), o_succ, gb_ck_s (o_in (by omega) (by omega)), o_cl (by omega), gb_let_s, o_succ, show (gb_pi g 79 (a + 98 + 2 * i) (g.1 88 i)).1 89 i = g.1 89 i from pi_n (by omega)]
      exact e1
    · by_cases z : j = i
      · subst z
        exact ⟨(e5 79 _ (by omega) (by omega)).1.trans ((pi_n (by omega)).trans pi_e), (e5 79 _ (by omega) (by omega)).1.trans pi_e⟩
      · obtain ⟨y1, y2⟩ := e2 j (by omega) h2
        exact ⟨y1.trans ((pi_n (by omega)).trans (pi_n (by omega))), y2.trans ((pi_n (by omega)).trans (pi_n (by omega)))⟩
theorem mv_new {rho : Nat → Int32} {a : Nat} {cs : List Cl} {cd : Cd} {φ : Bool} {Q : Nat → Int32} (ha : a + 900 ≤ 5520) (hl : cs.length ≤ 12) (hcd : cd.1 ≤ 400) (h1 : rho (a + 1) = Int32.ofNat cs.length) (hQ : ∀ j, j < 8 * cs.length → rho (a + 2 + j) = Q j) (hcode : ∀ i, i < cd.1 → rho (a + 98 + 2 * i) = cd.2.1 i ∧ rho (a + 98 + 2 * i + 1) = cd.2.2 i) (h : ∀ i q, cs[i]? = some q → gM false cd Q i q) (hw : ∀ q ∈ cs, wfCl false φ q) : mvL rho a (cs.map toQ) := by
  refine ⟨by rw [List.length_map]; exact h1, fun c q hq => ?_⟩
  rw [List.getElem?_map] at hq
  cases hx : cs[c]? with
  | none => rw [hx] at hq; cases hq
  | some x =>
    rw [hx] at hq
    have hq : toQ x = q := by simpa using hq
    subst hq
    have hi : c < cs.length := nx hx
    have hg := h c x hx
    refine ⟨(hQ (8 * c) (by omega)).trans hg.1, fun sh g w hw9 hr h34 h20 h95 => ?_⟩
    have e : ∀ k, k < 900 → g.1 79 (a + k) = rho (a + k) := hr
    refine isSo_m (sh := sh) ha (by omega) hcd (fun j hj => ?_) hg (hw x (List.mem_of_getElem? hx)) (fun i hi2 => ⟨?_, ?_⟩) h34 h20 h95 hw9
    · rw [show a + 2 + 8 * c + j = a + (2 + 8 * c + j) by omega, e _ (by omega), show a + (2 + 8 * c + j) = a + 2 + (8 * c + j) by omega]
      exact hQ _ (by omega)
    · rw [show a + 98 + 2 * i = a + (98 + 2 * i) by omega, e _ (by omega), show a + (98 + 2 * i) = a + 98 + 2 * i by omega]
      exact (hcode i hi2).1
    · rw [show a + 98 + 2 * i + 1 = a + (98 + 2 * i + 1) by omega, e _ (by omega), show a + (98 + 2 * i + 1) = a + 98 + 2 * i + 1 by omega]
      exact (hcode i hi2).2
theorem iR_up {g g2 : gb_G} {k0 : Nat} (h : iR g) (r0 : g2.1 76 k0 = g.1 76 k0 + 1) (r1 : g2.1 78 k0 = g.1 78 k0 + 1) (hk : k0 < 7) (F : ∀ k, ¬ k = k0 → g2.1 76 k = g.1 76 k ∧ g2.1 78 k = g.1 78 k) : iR g2 := by
  intro k hk2
  by_cases e : k = k0
  · rw [e, r0, r1, h k0 hk]
  · rw [(F k e).1, (F k e).2]; exact h k hk2
theorem iT_0 {g : gb_G} (h1 : g.1 43 1 = 0) (h2 : g.1 77 13 = 0) : iT g := ⟨0, by omega, h1, h2, fun j hj => by omega⟩
set_option maxHeartbeats 4000000 in
theorem p_law : ps_law gb_I2 := by
  intro sh g hI2
  obtain ⟨hI, h51⟩ := hI2
  have hI0 := hI
  obtain ⟨⟨hS, h105⟩, ⟨hC, h20⟩, hF, hM, hR, hT, hD, hII, β, ⟨hw, hc, hm⟩, hU⟩ := hI0
  obtain ⟨n, hn, t1, t2, t3⟩ := hT
  have hlen : (bL β).length ≤ 6 := hw.2.2.2.1
  have c7 : g.1 1 7 = Int32.ofNat (bL β).length := hc.2.2.2.2.2.2.2.1
  have m3 : g.1 79 3 = Int32.ofNat (bL β).length := hm.2.2.2.2.2.2.2.1
  by_cases h6 : (bL β).length < 6
  · have hlt : g.1 1 7 < 6 := by rw [c7, show (6 : Int32) = Int32.ofNat 6 from rfl, o_lt (by omega) (by omega)]; exact h6
    have hB : ∀ j, j < n → im 0 255 (g.1 44 j) := fun j hj => (t3 j hj).2
    have rd : TO1 n false g (f_X8_read sh g 0) (txO n (g.1 44) false 12 (skp n (g.1 44) 400 0) 0 [] false) := read_c (ord := false) hn hB (ln_S hS) ⟨t1, fun j _ => rfl⟩ h51
    cases ho : txO n (g.1 44) false 12 (skp n (g.1 44) 400 0) 0 [] false with
    | inl p =>
      rw [ho] at rd
      obtain ⟨hp, r, r1, r2, r3⟩ := rd
      have W := w_X8_read r1
      refine Or.inr (Or.inl ⟨hlt, (r, Int32.ofNat p), r1, fun z => ?_, ?_⟩)
      · have := congrArg Int32.toInt z
        rw [show (r, Int32.ofNat p).2 = Int32.ofNat p from rfl, o_int (by omega), show (-1 : Int32).toInt = -1 from rfl] at this
        omega
      have e1 := rf (sh := sh) (g := gb_pi r 0 15 (Int32.ofNat p)) (v := -6) 6 (by omega) rfl
      obtain ⟨g1, hg1⟩ : ∃ x, x = gb_pi (gb_pi (gb_pi r 0 15 (Int32.ofNat p)) 0 18 (-6)) 76 6 ((gb_pi r 0 15 (Int32.ofNat p)).1 76 6 + 1) := ⟨_, rfl⟩
      rw [← hg1] at e1
      have E1 : ∀ c k, ¬ ((c = 0 ∧ (k = 15 ∨ k = 18)) ∨ c = 43 ∨ (45 ≤ c ∧ c ≤ 51) ∨ (c = 76 ∧ k = 6)) → eqc g g1 c k := fun c k q => by
        rw [hg1]
        exact eqc_tr (W c k (by omega)) (eqc_tr (eqpi (by omega)) (eqc_tr (eqpi (by omega)) (eqpi (by omega))))
      have L := lawt_m (sh := sh) (B := g.1 44) (g := g1) hn ⟨(E1 77 13 (by omega)).1.trans t2, fun j hj => (E1 86 j (by omega)).1.trans (t3 j hj).1.symm⟩ (mvC_fr hC fun c k q => E1 c k (by omega)) (by rw [(E1 79 3 (by omega)).1, m3]; intro z; have := o_inj (j := 6) (by omega) (by omega) z; omega)
      rw [ho] at L
      obtain ⟨r', l1, l2, l3, l4, l5⟩ := L
      have e2 : f_X11_law sh g1 = some (gb_pi (gb_pi r' 77 1 (-6)) 78 6 (r'.1 78 6 + 1), -6) := by
        rw [l1]
        unfold lawK
        rw [if_neg (by rw [l3.1]; decide), te_n 6 (by omega) rfl (by decide), gb_bd_s]
      refine ⟨_, _, e1, e2, rfl, ?_, ?_⟩
      · have E2 : ∀ c k, ¬ ((c = 77 ∧ (k = 0 ∨ k = 1)) ∨ Wt c k ∨ (c = 78 ∧ k = 6)) → eqc g1 (gb_pi (gb_pi r' 77 1 (-6)) 78 6 (r'.1 78 6 + 1)) c k := fun c k q => eqc_tr (eqpi (by omega)) (eqc_tr (l2 c k (fun z => q (Or.inr (Or.inl z)))) (eqc_tr (eqpi (by omega)) (eqpi (by omega))))
        have E : ∀ c k, ¬ ((c = 0 ∧ (k = 15 ∨ k = 18)) ∨ c = 43 ∨ (45 ≤ c ∧ c ≤ 51) ∨ (c = 76 ∧ k = 6)) → ¬ ((c = 77 ∧ (k = 0 ∨ k = 1)) ∨ (c = 77 ∧ 13 ≤ k ∧ k ≤ 30) ∨ (87 ≤ c ∧ c ≤ 91) ∨ c = 103 ∨ (c = 78 ∧ k = 6)) → eqc g (gb_pi (gb_pi r' 77 1 (-6)) 78 6 (r'.1 78 6 + 1)) c k := fun c k q1 q2 => eqc_tr (E1 c k q1) (E2 c k (by unfold Wt; omega))
        have C2 : ∀ c k, c < 77 → (gb_pi (gb_pi r' 77 1 (-6)) 78 6 (r'.1 78 6 + 1)).1 c k = g1.1 c k := fun c k q => (E2 c k (by unfold Wt; omega)).1
        refine gI_re hI (fun c k q => E c k (by omega) (by omega)) ?_ ⟨?_, ?_, ?_, ?_⟩ (iR_up (k0 := 6) hR ?_ ?_ (by omega) fun k hk => ⟨(E 76 k (by omega) (by omega)).1, (E 78 k (by omega) (by omega)).1⟩) (iT_0 ?_ ?_)
        · exact (pi_n (by omega)).trans ((pi_n (by omega)).trans l4)
        · refine (C2 0 15 (by omega)).trans ?_
          rw [hg1, pi_n (by omega), pi_n (by omega), pi_e]
          exact ((pi_n (by omega)).trans ((pi_n (by omega)).trans l3.2)).symm
        · exact (E 0 16 (by omega) (by omega)).1.trans (hM.2.1.trans (E 77 11 (by omega) (by omega)).1.symm)
        · exact (E 0 17 (by omega) (by omega)).1.trans (hM.2.2.1.trans (E 77 51 (by omega) (by omega)).1.symm)
        · refine (C2 0 18 (by omega)).trans ?_
          rw [hg1, pi_n (by omega), pi_e]
          exact ((pi_n (by omega)).trans pi_e).symm
        · refine (C2 76 6 (by omega)).trans ?_
          rw [hg1, pi_e, pi_n (by omega), (W 76 6 (by omega)).1]
        · rw [pi_e, (l2 78 6 (by unfold Wt; omega)).1, pi_n (by omega), (E1 78 6 (by omega)).1]
        · refine (C2 43 1 (by omega)).trans ?_
          rw [hg1, pi_n (by omega), pi_n (by omega), pi_n (by omega)]
          exact r2
        · exact (pi_n (by omega)).trans ((pi_n (by omega)).trans l5)
      · rw [pi_n (by omega), pi_n (by omega), (l2 51 0 (by unfold Wt; omega)).1, pi_n (by omega), hg1, pi_n (by omega), pi_n (by omega), pi_n (by omega)]
        exact r3.trans h51
    | inr x =>
      obtain ⟨cs, φ⟩ := x
      rw [ho] at rd
      obtain ⟨r, c, r1, r2, r3, r4, r5, r6, r7, r8, r9, r10⟩ := rd
      have W := w_X8_read r1
      refine Or.inr (Or.inr ⟨hlt, (r, -1), c, cs.length, (bL β).length, r1, rfl, r4, r5, h6, r6, r7, ?_, (W 1 7 (by omega)).1.trans c7, fun g2 hN => ?_⟩)
      · have r8 : r.1 46 7 = if φ = true then 1 else 0 := r8
        show r.1 46 7 = 0 ∨ r.1 46 7 = 1
        rw [r8]
        cases φ
        · exact Or.inl rfl
        · exact Or.inr rfl
      obtain ⟨K, hK⟩ : ∃ K, K = (bL β).length := ⟨_, rfl⟩
      rw [← hK] at h6 c7 m3 ⊢
      obtain ⟨g3, hg3⟩ : ∃ x, x = gb_pi (gb_pr (gb_pi g2 1 7 (Int32.ofNat (K + 1))) 6 K (some sh.length)) 0 18 0 := ⟨_, rfl⟩
      rw [← hg3]
      obtain ⟨sh', hsh'⟩ : ∃ x, x = sh ++ gb_lawcells sh.length c cs.length := ⟨_, rfl⟩
      have hcv : cvL sh' g3 sh.length (cs.map toQ) := by
        rw [hsh']
        refine cv_new r4 r5 h105 r9 r10 hN fun a k ha => ?_
        rw [hg3, pi_n (by omega)]
        exact pi_n (by omega)
      have N1 := hN.1
      have E1 : ∀ a k, a < sh.length → ¬ ((a = 0 ∧ (k = 15 ∨ k = 18)) ∨ (a = 1 ∧ k = 7) ∨ (a = 6 ∧ k = K) ∨ a = 43 ∨ (45 ≤ a ∧ a ≤ 51)) → eqc g g3 a k := fun a k ha q => by
        obtain ⟨u1, u2, u3⟩ := N1 a ha
        obtain ⟨w1, w2, w3⟩ := W a k (by omega)
        rw [hg3]
        refine ⟨?_, ?_, ?_⟩
        · rw [pi_n (by omega)]
          show (gb_pi g2 1 7 (Int32.ofNat (K + 1))).1 a k = g.1 a k
          rw [pi_n (by omega), u1, pi_n (by omega)]
          exact w1
        · show g2.2.1 a k = g.2.1 a k
          rw [u2]; exact w2
        · show (gb_pr (gb_pi g2 1 7 (Int32.ofNat (K + 1))) 6 K (some sh.length)).2.2 a k = g.2.2 a k
          rw [pr_n (by omega)]
          show g2.2.2 a k = g.2.2 a k
          rw [u3]; exact w3
      have g3_1 : ∀ a k, ¬ (a = 0 ∧ k = 18) → ¬ (a = 1 ∧ k = 7) → a < sh.length → g3.1 a k = (gb_pi r 0 15 (-1)).1 a k := fun a k q1 q2 ha => by
        rw [hg3, pi_n (by omega)]
        show (gb_pi g2 1 7 (Int32.ofNat (K + 1))).1 a k = _
        rw [pi_n (by omega), (N1 a ha).1]
      have L := lawt_m (sh := sh') (B := g.1 44) (g := g3) hn ⟨(E1 77 13 (by omega) (by omega)).1.trans t2, fun j hj => (E1 86 j (by omega) (by omega)).1.trans (t3 j hj).1.symm⟩ (mvC_fr hC fun c k q => E1 c k (by omega) (by omega)) (by rw [(E1 79 3 (by omega) (by omega)).1, m3]; intro z; have := o_inj (j := 6) (by omega) (by omega) z; omega)
      rw [ho] at L
      obtain ⟨r', cd, l1, l2, l3, l4, l5, l6, l7, l8, l9, l10⟩ := L
      have R79 : ∀ k, r'.1 79 k = g.1 79 k := fun k => (l2 79 k (by unfold Wt; omega)).1.trans ((pi_n (by omega)).trans (E1 79 k (by omega) (by omega)).1)
      obtain ⟨a, ha⟩ : ∃ a, a = 120 + 900 * K := ⟨_, rfl⟩
      have ea : (120 : Int32) + 900 * Int32.ofNat K = Int32.ofNat a := by
        rw [show (900 : Int32) = Int32.ofNat 900 from rfl, show (120 : Int32) = Int32.ofNat 120 from rfl, o_mul, o_add, ha]
      obtain ⟨g4, x1, x2, x3⟩ := l110 (sh := sh') (a := a) (m := cs.length) r5 (by omega) (8 * cs.length) 0 gb_N (gb_pi r' 79 (a + 1) (Int32.ofNat cs.length)) (by omega) (by unfold gb_N; omega) ((pi_n (by omega)).trans l9)
      obtain ⟨o, y1, y2, y3, y4, y5⟩ := l145 (sh := sh') (a := a) (z := cd.1) (k0 := K) (by omega) (by omega) l8 h6 cd.1 0 gb_N g4 (by omega) (by unfold gb_N; omega) ((x3 77 23 (by omega)).1.trans ((pi_n (by omega)).trans l7.1)) ((x3 79 3 (by omega)).1.trans ((pi_n (by omega)).trans ((R79 3).trans m3)))
      have e2 : f_X11_law sh' g3 = some (o, Int32.ofNat K) := by
        rw [l1]
        unfold lawK
        rw [if_pos l3, R79 3, m3, ea, l9, o_succ, gb_ck_s (o_in (by omega) (by omega)), o_cl (by omega), gb_let_s]
        exact x1.trans y1
      rw [← hsh']
      refine ⟨_, e2, rfl, ?_, ?_⟩
      · have E2 : ∀ c k, ¬ ((c = 77 ∧ (k = 0 ∨ k = 1)) ∨ Wt c k ∨ (c = 79 ∧ (k = 3 ∨ (a ≤ k ∧ k < a + 900)))) → eqc g3 o c k := fun c k q => by
          refine eqc_tr (eqpi (by omega)) (eqc_tr (l2 c k (fun z => q (Or.inr (Or.inl z)))) (eqc_tr (eqpi (by omega)) (eqc_tr (x3 c k (by omega)) (y5 c k (by omega) (by omega)))))
        have E : ∀ c k, c < sh.length → ¬ ((c = 0 ∧ (k = 15 ∨ k = 18)) ∨ (c = 1 ∧ k = 7) ∨ (c = 6 ∧ k = K) ∨ c = 43 ∨ (45 ≤ c ∧ c ≤ 51)) → ¬ ((c = 77 ∧ (k = 0 ∨ k = 1)) ∨ (c = 77 ∧ 13 ≤ k ∧ k ≤ 30) ∨ (87 ≤ c ∧ c ≤ 91) ∨ c = 103 ∨ (c = 79 ∧ (k = 3 ∨ (a ≤ k ∧ k < a + 900)))) → eqc g o c k := fun c k hl q1 q2 => eqc_tr (E1 c k hl q1) (E2 c k (by unfold Wt; omega))
        have C2 : ∀ c k, c < 77 ∨ 105 ≤ c → eqc g3 o c k := fun c k q => E2 c k (by unfold Wt; omega)
        have hcvo : cvL sh' o sh.length (cs.map toQ) := cvL_fr hcv fun c k hc => C2 c k (by omega)
        have row : ∀ k, k < a → ¬ k = 3 → o.1 79 k = g.1 79 k := fun k h1 h2 => (E 79 k (by omega) (by omega) (by omega)).1
        have p6 : o.2.2 6 K = some sh.length := (C2 6 K (by omega)).2.2.trans (by rw [hg3]; exact pr_e)
        refine ⟨⟨by rw [hsh']; exact hS.app, by rw [hsh', List.length_append]; omega⟩, ⟨mvC_fr hC fun c k q => E c k (by omega) (by omega) (by omega), ?_⟩, ?_, ⟨?_, ?_, ?_, ?_⟩, iR_fr hR fun c k q => E c k (by omega) (by omega) (by omega), iT_0 ?_ ?_, iD_fr hD fun c k q => E c k (by omega) (by omega) (by omega), ?_, (bN β, bT β, bP β, bO β, bH β, bHe β, bTe β, bL β ++ [cs.map toQ], bF β), ⟨?_, ?_, ?_⟩, iU_fr hw.1 hU fun c k q => E c k (by omega) (by omega) (by omega)⟩
        · exact (y5 77 20 (by omega) (by omega)).1.trans ((x3 77 20 (by omega)).1.trans ((pi_n (by omega)).trans l5))
        · intro b k p hb hk hq
          by_cases z : b = 6 ∧ k = K
          · rw [z.1, z.2, p6] at hq
            cases hq
            exact hcv.1
          · rw [hsh']
            exact okX7_app (hF b k p hb hk (by rw [← (E b k (by omega) (by omega) (by omega)).2.2]; exact hq))
        · rw [(C2 0 15 (by omega)).1, g3_1 0 15 (by omega) (by omega) (by omega), pi_e, (y5 77 18 (by omega) (by omega)).1, (x3 77 18 (by omega)).1, pi_n (by omega), l4]
        · exact (E 0 16 (by omega) (by omega) (by omega)).1.trans (hM.2.1.trans (E 77 11 (by omega) (by omega) (by omega)).1.symm)
        · exact (E 0 17 (by omega) (by omega) (by omega)).1.trans (hM.2.2.1.trans (E 77 51 (by omega) (by omega) (by omega)).1.symm)
        · rw [(C2 0 18 (by omega)).1, hg3, pi_e, y4]
        · rw [(C2 43 1 (by omega)).1, g3_1 43 1 (by omega) (by omega) (by omega), pi_n (by omega)]; exact r2
        · exact (y5 77 13 (by omega) (by omega)).1.trans ((x3 77 13 (by omega)).1.trans ((pi_n (by omega)).trans l6))
        · refine ⟨(E 19 0 (by omega) (by omega) (by omega)).2.2.trans hII.1, (E 19 1 (by omega) (by omega) (by omega)).2.2.trans hII.2.1, fun j hj => ?_⟩
          rw [(E 32 j (by omega) (by omega) (by omega)).1, (E 81 j (by omega) (by omega) (by omega)).1]
          rcases hII.2.2 j hj with z | ⟨z1, z2, β', v1, v2, v3⟩
          · exact Or.inl z
          · exact Or.inr ⟨z1, z2, β', v1, by rw [hsh']; exact cvB_ap v2 fun c k q => E c k (by omega) (by omega) (by omega), mvB_fr v3 v1 fun k hk => (E 80 _ (by omega) (by omega) (by omega)).1⟩
        · obtain ⟨w0, w1, w2, w3, w4, w5, w6⟩ := hw
          refine ⟨w0, w1, w2, ?_, fun lw hlw => ?_, ?_, w6⟩
          · show (bL β ++ [cs.map toQ]).length ≤ 6
            rw [List.length_append, List.length_singleton]; omega
          · have hlw : lw ∈ bL β ++ [cs.map toQ] := hlw
            rw [List.mem_append, List.mem_singleton] at hlw
            rcases hlw with hlw | hlw
            · exact w4 lw hlw
            · subst hlw
              refine ⟨by rw [List.length_map]; exact r5, fun q hq => ?_⟩
              rw [List.mem_map] at hq
              obtain ⟨x, hx, rfl⟩ := hq
              exact toQ_wf (r10 x hx)
          · show im (-1) (((bL β ++ [cs.map toQ]).length : Int) - 1) (bF β)
            rw [List.length_append, List.length_singleton]
            rw [im] at w5 ⊢
            omega
        · obtain ⟨c0, c1, c2, c3, c4, c5, c6, c7', c8, c9⟩ := hc
          refine ⟨(E 1 0 (by omega) (by omega) (by omega)).1.trans c0, fun i j hi hj => (E 2 _ (by omega) (by omega) (by omega)).1.trans (c1 i j hi hj), (E 1 2 (by omega) (by omega) (by omega)).1.trans c2, fun p i hp hi => (E 3 _ (by omega) (by omega) (by omega)).1.trans (c3 p i hp hi), (E 1 4 (by omega) (by omega) (by omega)).1.trans c4, fun j hj => (E 4 _ (by omega) (by omega) (by omega)).1.trans (c5 j hj), fun j hj => (E 5 _ (by omega) (by omega) (by omega)).1.trans (c6 j hj), ?_, fun k lw hk => ?_, (E 1 9 (by omega) (by omega) (by omega)).1.trans c9⟩
          · show o.1 1 7 = Int32.ofNat (bL β ++ [cs.map toQ]).length
            rw [List.length_append, List.length_singleton, (C2 1 7 (by omega)).1, hg3, pi_n (by omega), ← hK]
            show (gb_pi g2 1 7 (Int32.ofNat (K + 1))).1 1 7 = _
            exact pi_e
          · have hk : (bL β ++ [cs.map toQ])[k]? = some lw := hk
            by_cases hi : k < K
            · rw [List.getElem?_append_left (by omega)] at hk
              obtain ⟨p, q1, q2⟩ := c8 k lw hk
              exact ⟨p, (E 6 k (by omega) (by omega) (by omega)).2.2.trans q1, by rw [hsh']; exact cvL_app (cvL_fp q2 fun c k z1 z2 => E c k (by omega) (by omega) (by omega))⟩
            · rw [List.getElem?_append_right (by omega)] at hk
              have hi2 := nx hk
              rw [List.length_singleton] at hi2
              have ei : k = K := by omega
              subst ei
              rw [hK, Nat.sub_self] at hk
              cases hk
              exact ⟨sh.length, p6, hcvo⟩
        · obtain ⟨m0, m1, m2, m3', m4, m5, m6, m7, m8, m9⟩ := hm
          have w0 : bN β ≤ 8 := hw.1
          have w1 : bP β ≤ 5 := hw.2.1
          have w2 : bH β ≤ 12 := hw.2.2.1
          refine ⟨(row _ (by omega) (by omega)).trans m0, fun i (hi : i < bN β) => ?_, (row _ (by omega) (by omega)).trans m2, fun p i (hp : p < bP β) (hi : i < bN β) => (row _ (by omega) (by omega)).trans (m3' p i hp hi), (row _ (by omega) (by omega)).trans m4, fun j (hj : j < bH β) => (row _ (by omega) (by omega)).trans (m5 j hj), fun j hj => (row _ (by omega) (by omega)).trans (m6 j hj), ?_, fun k lw hk => ?_, (row _ (by omega) (by omega)).trans m9⟩
          · rw [row _ (by omega) (by omega), row _ (by omega) (by omega), row _ (by omega) (by omega), row _ (by omega) (by omega), row _ (by omega) (by omega), row _ (by omega) (by omega), row _ (by omega) (by omega)]
            exact m1 i hi
          · show o.1 79 3 = Int32.ofNat (bL β ++ [cs.map toQ]).length
            rw [List.length_append, List.length_singleton, y3, hK]
          · have hk : (bL β ++ [cs.map toQ])[k]? = some lw := hk
            by_cases hi : k < K
            · rw [List.getElem?_append_left (by omega)] at hk
              refine mvL_fr (m8 k lw hk) (hw.2.2.2.2.1 lw (List.mem_of_getElem? hk)).1 fun q hq => row _ (by omega) (by omega)
            · rw [List.getElem?_append_right (by omega)] at hk
              have hi2 := nx hk
              rw [List.length_singleton] at hi2
              have ei : k = K := by omega
              subst ei
              rw [hK, Nat.sub_self] at hk
              cases hk
              rw [← ha]
              refine mv_new (cd := cd) (Q := r'.1 87) (by omega) r5 l8 ?_ (fun j hj => ?_) (fun i hi => ⟨?_, ?_⟩) l10 r10
              · rw [(y5 79 (a + 1) (by omega) (by omega)).1, (x3 79 (a + 1) (by omega)).1, pi_e]
              · rw [(y5 79 (a + 2 + j) (by omega) (by omega)).1, x2 j (by omega) hj, pi_n (by omega)]
              · rw [(y2 i (by omega) hi).1, (x3 88 i (by omega)).1, pi_n (by omega), l7.2.1]
              · rw [(y2 i (by omega) hi).2, (x3 89 i (by omega)).1, pi_n (by omega), l7.2.2]
      · have z1 := (y5 51 0 (by omega) (by omega)).1.trans ((x3 51 0 (by omega)).1.trans ((pi_n (by omega)).trans ((l2 51 0 (by unfold Wt; omega)).1.trans ((pi_n (by omega)).trans ((g3_1 51 0 (by omega) (by omega) (by omega)).trans (pi_n (by omega)))))))
        exact z1.trans (r3.trans h51)
  · have e6 : (bL β).length = 6 := by omega
    rw [e6] at c7 m3
    have e1 := rf (sh := sh) (g := gb_pi g 43 1 0) (v := -5) 5 (by omega) rfl
    obtain ⟨g1, hg1⟩ : ∃ x, x = gb_pi (gb_pi (gb_pi g 43 1 0) 0 18 (-5)) 76 5 ((gb_pi g 43 1 0).1 76 5 + 1) := ⟨_, rfl⟩
    rw [← hg1] at e1
    have E1 : ∀ c k, ¬ ((c = 0 ∧ k = 18) ∨ (c = 43 ∧ k = 1) ∨ (c = 76 ∧ k = 5)) → eqc g g1 c k := fun c k q => by
      rw [hg1]
      exact eqc_tr (eqpi (by omega)) (eqc_tr (eqpi (by omega)) (eqpi (by omega)))
    have e2 : f_X11_law sh g1 = some (gb_pi (gb_pi (gb_pi (gb_pi g1 77 0 0) 77 13 0) 77 1 (-5)) 78 5 ((gb_pi (gb_pi g1 77 0 0) 77 13 0).1 78 5 + 1), -5) := by
      unfold f_X11_law
      rw [gb_let_s, if_pos (by rw [pi_n (by omega), (E1 79 3 (by omega)).1, m3]; rfl), gb_let_s, te_n 5 (by omega) rfl (by decide), gb_bd_s]
    refine Or.inl ⟨by rw [c7]; decide, _, _, e1, e2, rfl, ?_, ?_⟩
    · have E2 : ∀ c k, ¬ ((c = 77 ∧ (k = 0 ∨ k = 1 ∨ k = 13)) ∨ (c = 78 ∧ k = 5)) → eqc g1 (gb_pi (gb_pi (gb_pi (gb_pi g1 77 0 0) 77 13 0) 77 1 (-5)) 78 5 ((gb_pi (gb_pi g1 77 0 0) 77 13 0).1 78 5 + 1)) c k := fun c k q => eqc_tr (eqpi (by omega)) (eqc_tr (eqpi (by omega)) (eqc_tr (eqpi (by omega)) (eqpi (by omega))))
      have E : ∀ c k, ¬ ((c = 0 ∧ k = 18) ∨ (c = 43 ∧ k = 1) ∨ (c = 76 ∧ k = 5)) → ¬ ((c = 77 ∧ (k = 0 ∨ k = 1 ∨ k = 13)) ∨ (c = 78 ∧ k = 5)) → eqc g (gb_pi (gb_pi (gb_pi (gb_pi g1 77 0 0) 77 13 0) 77 1 (-5)) 78 5 ((gb_pi (gb_pi g1 77 0 0) 77 13 0).1 78 5 + 1)) c k := fun c k q1 q2 => eqc_tr (E1 c k q1) (E2 c k q2)
      refine gI_re hI (fun c k q => E c k (by omega) (by omega)) ?_ ⟨?_, ?_, ?_, ?_⟩ (iR_up (k0 := 5) hR ?_ ?_ (by omega) fun k hk => ⟨(E 76 k (by omega) (by omega)).1, (E 78 k (by omega) (by omega)).1⟩) (iT_0 ?_ ?_)
      · exact (E 77 20 (by omega) (by omega)).1.trans h20
      · exact (E 0 15 (by omega) (by omega)).1.trans (hM.1.trans (E 77 18 (by omega) (by omega)).1.symm)
      · exact (E 0 16 (by omega) (by omega)).1.trans (hM.2.1.trans (E 77 11 (by omega) (by omega)).1.symm)
      · exact (E 0 17 (by omega) (by omega)).1.trans (hM.2.2.1.trans (E 77 51 (by omega) (by omega)).1.symm)
      · rw [(E2 0 18 (by omega)).1, hg1, pi_n (by omega), pi_e]
        exact ((pi_n (by omega)).trans pi_e).symm
      · rw [(E2 76 5 (by omega)).1, hg1, pi_e, pi_n (by omega)]
      · rw [pi_e, pi_n (by omega), pi_n (by omega), (E1 78 5 (by omega)).1]
      · rw [(E2 43 1 (by omega)).1, hg1, pi_n (by omega), pi_n (by omega), pi_e]
      · rw [pi_n (by omega), pi_n (by omega), pi_e]
    · rw [pi_n (by omega), pi_n (by omega), pi_n (by omega), pi_n (by omega), (E1 51 0 (by omega)).1]
      exact h51
