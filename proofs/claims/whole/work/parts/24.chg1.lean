/-! ===== calls that change a number ===== -/
theorem gb_Fr.p2 {W : Nat → Nat → Prop} {g g0 : gb_G} {c j : Nat} {x : Int32} (F : gb_Fr W g g0) (hw : W c j) : gb_Fr W g (gb_pi g0 c j x) := F.tr (gb_Fr.pi hw rfl)
/-- both refuse -/
theorem rf_I {sh : List gb_Sh} {g g2 : gb_G} {v : Int32} {k0 : Nat} (hI : gb_I sh g) (hg : g2 = gb_pi (gb_pi (gb_pi (gb_pi (gb_pi g 0 18 v) 76 k0 (g.1 76 k0 + 1)) 77 0 0) 77 1 v) 78 k0 (g.1 78 k0 + 1)) : gb_I sh g2 := by
  have F : gb_Fr (fun c k => (c = 0 ∧ k = 18) ∨ (c = 76 ∧ k = k0) ∨ (c = 77 ∧ (k = 0 ∨ k = 1)) ∨ (c = 78 ∧ k = k0)) g g2 := by
    rw [hg]; exact ((((gb_Fr.rf.p2 (by omega)).p2 (by omega)).p2 (by omega)).p2 (by omega)).p2 (by omega)
  have hs0 : g2.1 0 18 = v := by rw [hg, pi_n (by omega), pi_n (by omega), pi_n (by omega), pi_n (by omega), pi_e]
  have hs1 : g2.1 77 1 = v := by rw [hg, pi_n (by omega), pi_e]
  have hr0 : g2.1 76 k0 = g.1 76 k0 + 1 := by rw [hg, pi_n (by omega), pi_n (by omega), pi_n (by omega), pi_e]
  have hr1 : g2.1 78 k0 = g.1 78 k0 + 1 := by rw [hg, pi_e]
  have hI0 := hI
  obtain ⟨hS, ⟨h1, h2⟩, h3, h4, h5, h6, h7, h8, β, ⟨hw, hc, hm⟩, h10⟩ := hI0
  have hc0 := hc
  have hm0 := hm
  have hw0 := hw
  obtain ⟨c0, c1, c2, c3, c4, c5, c6, c7, c8, c9⟩ := hc0
  obtain ⟨m0, m1, m2, m3, m4, m5, m6, m7, m8, m9⟩ := hm0
  obtain ⟨w0, w1, w2, w3, w4, w5, w6, w7, w8, w9, w10, w11, w12⟩ := hw0
  have hR : iR g2 := by
    intro k hk
    by_cases e : k = k0
    · rw [e, hr0, hr1, h5 k0 (by omega)]
    · exact (F 76 k (by omega)).1.trans ((h5 k hk).trans (F 78 k (by omega)).1.symm)
  exact ⟨hS, ⟨mvC_fr h1 fun c k q => F c k (by omega), (F 77 20 (by omega)).1.trans h2⟩, iF_fr h3 fun c k q => F c k (by omega), ⟨(F 0 15 (by omega)).1.trans (h4.1.trans (F 77 18 (by omega)).1.symm), (F 0 16 (by omega)).1.trans (h4.2.1.trans (F 77 11 (by omega)).1.symm), (F 0 17 (by omega)).1.trans (h4.2.2.1.trans (F 77 51 (by omega)).1.symm), hs0.trans hs1.symm⟩, hR, iT_fr h6 fun c k q => F c k (by omega), iD_fr h7 fun c k q => F c k (by omega), iI_fr h8 fun c k q => F c k (by omega), β, ⟨⟨w0, w1, w2, w3, w4, w5, w6, w7, w8, w9, w10, w11, w12⟩, ⟨(F 1 0 (by omega)).1.trans c0, fun i j (hi : i < bN β) hj => (F 2 _ (by omega)).1.trans (c1 i j hi hj), (F 1 2 (by omega)).1.trans c2, fun p i hp hi => (F 3 _ (by omega)).1.trans (c3 p i hp hi), (F 1 4 (by omega)).1.trans c4, fun j (hj : j < bH β) => (F 4 _ (by omega)).1.trans (c5 j hj), fun j hj => (F 5 _ (by omega)).1.trans (c6 j hj), (F 1 7 (by omega)).1.trans c7, fun k lw (hk : (bL β)[k]? = some lw) => (c8 k lw hk).elim fun p hp => ⟨p, (F 6 k (by omega)).2.2.trans hp.1, cvL_fr hp.2 fun c k hc => F c k (by omega)⟩, (F 1 9 (by omega)).1.trans c9⟩, ⟨(F 79 0 (by omega)).1.trans m0, fun i (hi : i < bN β) => ⟨(F 79 _ (by omega)).1.trans (m1 i hi).1, (F 79 _ (by omega)).1.trans (m1 i hi).2.1, (F 79 _ (by omega)).1.trans (m1 i hi).2.2.1, (F 79 _ (by omega)).1.trans (m1 i hi).2.2.2.1, (F 79 _ (by omega)).1.trans (m1 i hi).2.2.2.2.1, (F 79 _ (by omega)).1.trans (m1 i hi).2.2.2.2.2.1, (F 79 _ (by omega)).1.trans (m1 i hi).2.2.2.2.2.2⟩, (F 79 1 (by omega)).1.trans m2, fun p i (hp : p < bP β) (hi : i < bN β) => (F 79 _ (by omega)).1.trans (m3 p i hp hi), (F 79 2 (by omega)).1.trans m4, fun j (hj : j < bH β) => (F 79 _ (by omega)).1.trans (m5 j hj), fun j hj => (F 79 _ (by omega)).1.trans (m6 j hj), (F 79 3 (by omega)).1.trans m7, fun k lw (hk : (bL β)[k]? = some lw) => mvL_fr (m8 k lw hk) (w4 lw (List.mem_of_getElem? hk)).1 fun q hq => (F 79 _ (by omega)).1, (F 79 4 (by omega)).1.trans m9⟩⟩, iU_fr w0 h10 fun c k q => F c k (by omega)⟩
/-- the class refuses -/
theorem rfc {sh : List gb_Sh} {g : gb_G} {v : Int32} (k : Nat) (hk : k < 7) (hv : -v = Int32.ofNat k) : gb_bd (f_X10_refuse sh g v) (fun r => some (r.1, r.2)) = some (gb_pi (gb_pi g 0 18 v) 76 k (g.1 76 k + 1), v) := by
  rw [rf k hk hv]; rfl
/-- the reference refuses, behind the class -/
theorem rfm {sh : List gb_Sh} {g : gb_G} {v : Int32} (k : Nat) (hk : k < 7) (hv : -v = Int32.ofNat k) (hn : v.toInt < 0) : gb_bd (f_X11_tell sh (gb_pi (gb_pi (gb_pi g 0 18 v) 76 k (g.1 76 k + 1)) 77 0 0) v) (fun r => some (r.1, r.2)) = some (gb_pi (gb_pi (gb_pi (gb_pi (gb_pi g 0 18 v) 76 k (g.1 76 k + 1)) 77 0 0) 77 1 v) 78 k (g.1 78 k + 1), v) := by
  rw [te_n k hk hv hn]; rfl

/-- both refuse by v -/
theorem rf_b {sh : List gb_Sh} {g : gb_G} {f1 : Option (gb_G × Int32)} (f2 : gb_G → Option (gb_G × Int32)) (v : Int32) (k0 : Nat) (hk : k0 < 7) (hv : -v = Int32.ofNat k0) (hn : v.toInt < 0) (hI : gb_I sh g) (r1 : f1 = gb_bd (f_X10_refuse sh g v) fun r => some (r.1, r.2)) (r2 : ∀ g1 : gb_G, g1.1 79 = g.1 79 → g1.1 77 = g.1 77 → g1.1 81 = g.1 81 → f2 g1 = gb_bd (f_X11_tell sh (gb_pi g1 77 0 0) v) fun r => some (r.1, r.2)) : ∃ o1 o2 : gb_G × Int32, f1 = some o1 ∧ f2 o1.1 = some o2 ∧ o1.2 = o2.2 ∧ gb_I sh o2.1 :=
  ⟨_, _, r1.trans (rfc k0 hk hv), (r2 (gb_pi (gb_pi g 0 18 v) 76 k0 (g.1 76 k0 + 1)) rfl rfl rfl).trans (rfm k0 hk hv hn), rfl, rf_I (v := v) (k0 := k0) hI rfl⟩

theorem p_forget : ps_forget gb_I := by
  intro sh g hI
  obtain ⟨g2, hg⟩ : ∃ g2, g2 = gb_pi (gb_pi (gb_pi g 1 4 0) 77 0 0) 79 2 0 := ⟨_, rfl⟩
  have hI0 := hI
  obtain ⟨hS, ⟨h1, h2⟩, h3, h4, h5, h6, h7, h8, β, ⟨hw, hc, hm⟩, h10⟩ := hI0
  have hc0 := hc
  have hm0 := hm
  have hw0 := hw
  obtain ⟨c0, c1, c2, c3, c4, c5, c6, c7, c8, c9⟩ := hc0
  obtain ⟨m0, m1, m2, m3, m4, m5, m6, m7, m8, m9⟩ := hm0
  obtain ⟨w0, w1, w2, w3, w4, w5, w6, w7, w8, w9, w10, w11, w12⟩ := hw0
  refine ⟨(gb_pi g 1 4 0, g.1 1 4), (g2, g.1 1 4), rfl, ?_, rfl, ?_⟩
  · rw [hg]
    exact congrArg (fun v => some (gb_pi (gb_pi (gb_pi g 1 4 0) 77 0 0) 79 2 0, v)) (m4.trans c4.symm)
  have F : gb_Fr (fun c k => (c = 1 ∧ k = 4) ∨ (c = 77 ∧ k = 0) ∨ (c = 79 ∧ k = 2)) g g2 := by
    rw [hg]; exact ((gb_Fr.rf.p2 (by omega)).p2 (by omega)).p2 (by omega)
  have e1 : g2.1 1 4 = Int32.ofNat 0 := by rw [hg, pi_n (by omega), pi_n (by omega), pi_e]; rfl
  have e2 : g2.1 79 2 = Int32.ofNat 0 := by rw [hg, pi_e]; rfl
  show gb_I sh g2
  exact ⟨hS, ⟨mvC_fr h1 fun c k q => F c k (by omega), (F 77 20 (by omega)).1.trans h2⟩, iF_fr h3 fun c k q => F c k (by omega), iM_fr h4 fun c k q => F c k (by omega), iR_fr h5 fun c k q => F c k (by omega), iT_fr h6 fun c k q => F c k (by omega), iD_fr h7 fun c k q => F c k (by omega), iI_fr h8 fun c k q => F c k (by omega), (bN β, bT β, bP β, bO β, 0, bHe β, bTe β, bL β, bF β), ⟨⟨w0, w1, Nat.zero_le _, w3, w4, w5, w6, w7, w8, fun j hj => absurd hj (Nat.not_lt_zero j), w10, w11, w12⟩, ⟨(F 1 0 (by omega)).1.trans c0, fun i j (hi : i < bN β) hj => (F 2 _ (by omega)).1.trans (c1 i j hi hj), (F 1 2 (by omega)).1.trans c2, fun p i hp hi => (F 3 _ (by omega)).1.trans (c3 p i hp hi), e1, fun j hj => absurd hj (Nat.not_lt_zero j), fun j hj => (F 5 _ (by omega)).1.trans (c6 j hj), (F 1 7 (by omega)).1.trans c7, fun k lw (hk : (bL β)[k]? = some lw) => (c8 k lw hk).elim fun p hp => ⟨p, (F 6 k (by omega)).2.2.trans hp.1, cvL_fr hp.2 fun c k hc => F c k (by omega)⟩, (F 1 9 (by omega)).1.trans c9⟩, ⟨(F 79 0 (by omega)).1.trans m0, fun i (hi : i < bN β) => ⟨(F 79 _ (by omega)).1.trans (m1 i hi).1, (F 79 _ (by omega)).1.trans (m1 i hi).2.1, (F 79 _ (by omega)).1.trans (m1 i hi).2.2.1, (F 79 _ (by omega)).1.trans (m1 i hi).2.2.2.1, (F 79 _ (by omega)).1.trans (m1 i hi).2.2.2.2.1, (F 79 _ (by omega)).1.trans (m1 i hi).2.2.2.2.2.1, (F 79 _ (by omega)).1.trans (m1 i hi).2.2.2.2.2.2⟩, (F 79 1 (by omega)).1.trans m2, fun p i (hp : p < bP β) (hi : i < bN β) => (F 79 _ (by omega)).1.trans (m3 p i hp hi), e2, fun j hj => absurd hj (Nat.not_lt_zero j), fun j hj => (F 79 _ (by omega)).1.trans (m6 j hj), (F 79 3 (by omega)).1.trans m7, fun k lw (hk : (bL β)[k]? = some lw) => mvL_fr (m8 k lw hk) (w4 lw (List.mem_of_getElem? hk)).1 fun q hq => (F 79 _ (by omega)).1, (F 79 4 (by omega)).1.trans m9⟩⟩, iU_fr w0 h10 fun c k q => F c k (by omega)⟩
theorem p_end : ps_end gb_I := by
  intro sh g x1 hI
  have hT := hI.2.2.2.2.2.1
  obtain ⟨n, hn, t1, t2, t3⟩ := hT
  have hn' : (Int32.ofNat n).toInt = n := o_int (by omega)
  by_cases h : im 0 n x1
  · have h' : ∃ i, i < n + 1 ∧ x1 = Int32.ofNat i := o_of (n := n + 1) (by rw [im] at *; omega)
    obtain ⟨i, hi, rfl⟩ := h'
    obtain ⟨g2, hg⟩ : ∃ g2, g2 = gb_pi (gb_pi (gb_pi g 43 1 (Int32.ofNat i)) 77 0 0) 77 13 (Int32.ofNat i) := ⟨_, rfl⟩
    refine ⟨(gb_pi g 43 1 (Int32.ofNat i), Int32.ofNat i), (g2, Int32.ofNat i), ?_, ?_, rfl, ?_⟩
    · unfold f_X10_end
      rw [t1, within_t h rfl hn', bt]; rfl
    · show f_X11_end sh (gb_pi g 43 1 (Int32.ofNat i)) _ = _
      unfold f_X11_end
      rw [gb_let_s, if_neg, if_pos, hg]
      · rfl
      · rw [show (gb_pi (gb_pi g 43 1 (Int32.ofNat i)) 77 0 0).1 77 13 = g.1 77 13 from rfl, t2, o_le (by omega) (by omega)]; omega
      · rw [Int32.lt_iff_toInt_lt, Int32.toInt_zero, o_int (by omega)]; omega
    have F : gb_Fr (fun c k => (c = 43 ∧ k = 1) ∨ (c = 77 ∧ (k = 0 ∨ k = 13))) g g2 := by
      rw [hg]; exact ((gb_Fr.rf.p2 (by omega)).p2 (by omega)).p2 (by omega)
    have e1 : g2.1 43 1 = Int32.ofNat i := by rw [hg, pi_n (by omega), pi_n (by omega), pi_e]
    have e2 : g2.1 77 13 = Int32.ofNat i := by rw [hg, pi_e]
    show gb_I sh g2
    have hI0 := hI
    obtain ⟨hS, ⟨h1, h2⟩, h3, h4, h5, h6, h7, h8, β, ⟨hw, hc, hm⟩, h10⟩ := hI0
    have hc0 := hc
    have hm0 := hm
    have hw0 := hw
    obtain ⟨c0, c1, c2, c3, c4, c5, c6, c7, c8, c9⟩ := hc0
    obtain ⟨m0, m1, m2, m3, m4, m5, m6, m7, m8, m9⟩ := hm0
    obtain ⟨w0, w1, w2, w3, w4, w5, w6, w7, w8, w9, w10, w11, w12⟩ := hw0
    have hT2 : iT g2 := ⟨i, by omega, e1, e2, fun j hj => by rw [(F 44 j (by omega)).1, (F 86 j (by omega)).1]; exact t3 j (by omega)⟩
    exact ⟨hS, ⟨mvC_fr h1 fun c k q => F c k (by omega), (F 77 20 (by omega)).1.trans h2⟩, iF_fr h3 fun c k q => F c k (by omega), iM_fr h4 fun c k q => F c k (by omega), iR_fr h5 fun c k q => F c k (by omega), hT2, iD_fr h7 fun c k q => F c k (by omega), iI_fr h8 fun c k q => F c k (by omega), β, ⟨⟨w0, w1, w2, w3, w4, w5, w6, w7, w8, w9, w10, w11, w12⟩, ⟨(F 1 0 (by omega)).1.trans c0, fun i j (hi : i < bN β) hj => (F 2 _ (by omega)).1.trans (c1 i j hi hj), (F 1 2 (by omega)).1.trans c2, fun p i hp hi => (F 3 _ (by omega)).1.trans (c3 p i hp hi), (F 1 4 (by omega)).1.trans c4, fun j (hj : j < bH β) => (F 4 _ (by omega)).1.trans (c5 j hj), fun j hj => (F 5 _ (by omega)).1.trans (c6 j hj), (F 1 7 (by omega)).1.trans c7, fun k lw (hk : (bL β)[k]? = some lw) => (c8 k lw hk).elim fun p hp => ⟨p, (F 6 k (by omega)).2.2.trans hp.1, cvL_fr hp.2 fun c k hc => F c k (by omega)⟩, (F 1 9 (by omega)).1.trans c9⟩, ⟨(F 79 0 (by omega)).1.trans m0, fun i (hi : i < bN β) => ⟨(F 79 _ (by omega)).1.trans (m1 i hi).1, (F 79 _ (by omega)).1.trans (m1 i hi).2.1, (F 79 _ (by omega)).1.trans (m1 i hi).2.2.1, (F 79 _ (by omega)).1.trans (m1 i hi).2.2.2.1, (F 79 _ (by omega)).1.trans (m1 i hi).2.2.2.2.1, (F 79 _ (by omega)).1.trans (m1 i hi).2.2.2.2.2.1, (F 79 _ (by omega)).1.trans (m1 i hi).2.2.2.2.2.2⟩, (F 79 1 (by omega)).1.trans m2, fun p i (hp : p < bP β) (hi : i < bN β) => (F 79 _ (by omega)).1.trans (m3 p i hp hi), (F 79 2 (by omega)).1.trans m4, fun j (hj : j < bH β) => (F 79 _ (by omega)).1.trans (m5 j hj), fun j hj => (F 79 _ (by omega)).1.trans (m6 j hj), (F 79 3 (by omega)).1.trans m7, fun k lw (hk : (bL β)[k]? = some lw) => mvL_fr (m8 k lw hk) (w4 lw (List.mem_of_getElem? hk)).1 fun q hq => (F 79 _ (by omega)).1, (F 79 4 (by omega)).1.trans m9⟩⟩, iU_fr w0 h10 fun c k q => F c k (by omega)⟩
  · refine ⟨(g, -1), (gb_pi g 77 0 0, -1), ?_, ?_, rfl, I770 hI⟩
    · unfold f_X10_end
      rw [t1, within_f h rfl hn', bf]
    · show f_X11_end sh g _ = _
      unfold f_X11_end
      rw [gb_let_s]
      by_cases h0 : x1 < 0
      · rw [if_pos h0]
      · rw [if_neg h0, if_neg]
        rw [show (gb_pi g 77 0 0).1 77 13 = g.1 77 13 from rfl, t2, Int32.le_iff_toInt_le, hn']
        rw [Int32.lt_iff_toInt_lt, Int32.toInt_zero] at h0
        rw [im] at h
        omega
