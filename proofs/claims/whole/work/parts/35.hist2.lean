/-! ===== one more that can be undone; loops that copy; lack, find, weigh, undo ===== -/
theorem gb_cp_s {β : Type} {sp dp n : Int32} {n0 n1 : Nat} {b : Option β} (h : ¬ sp < 0 ∧ ¬ dp < 0 ∧ ¬ n < 0 ∧ sp.toNatClampNeg + n.toNatClampNeg ≤ n0 ∧ dp.toNatClampNeg + n.toNatClampNeg ≤ n1) : gb_cp sp dp n n0 n1 b = b := if_pos h
theorem pa_e {g : gb_G} {c k : Nat} {f : Nat → Int32} : (gb_pa g c f).1 c k = f k := by simp [gb_pa]
theorem pa_n {g : gb_G} {c c' k : Nat} {f : Nat → Int32} (h : ¬ c' = c) : (gb_pa g c f).1 c' k = g.1 c' k := by simp [gb_pa, h]
theorem fr2 {W1 W2 : Nat → Nat → Prop} {g g1 g2 : gb_G} (F1 : gb_Fr W1 g g1) (F2 : gb_Fr W2 g1 g2) : ∀ c k, ¬ W1 c k → ¬ W2 c k → eqc g g2 c k := fun c k a b => ⟨(F2 c k b).1.trans (F1 c k a).1, (F2 c k b).2.1.trans (F1 c k a).2.1, (F2 c k b).2.2.trans (F1 c k a).2.2⟩
theorem cpl {β : Type} (L : Nat → gb_G → Int32 → Option β) (C S d s E : Nat) {P : β → Prop} (hs : ¬ C = S ∨ d ≤ s) (g : gb_G) (st : ∀ f g i, i < E → L (f + 1) g (Int32.ofNat i) = L f (gb_pi g C (d + i) (g.1 S (s + i))) (Int32.ofNat (i + 1))) (fin : ∀ f g', (∀ i, i < E → g'.1 C (d + i) = g.1 S (s + i)) → gb_Fr (fun c k => c = C ∧ d ≤ k ∧ k < d + E) g g' → gb_T (L (f + 1) g' (Int32.ofNat E)) P) : ∀ (m i fuel : Nat) (g' : gb_G), i + m = E → m < fuel → (∀ q, q < i → g'.1 C (d + q) = g.1 S (s + q)) → gb_Fr (fun c k => c = C ∧ d ≤ k ∧ k < d + i) g g' → gb_T (L fuel g' (Int32.ofNat i)) P := by
  intro m
  induction m with
  | zero =>
    intro i fuel g' h hf h1 F1
    obtain ⟨f, rfl⟩ : ∃ f, fuel = f + 1 := ⟨fuel - 1, by omega⟩
    have e : i = E := by omega
    subst e
    exact fin f g' h1 F1
  | succ m ih =>
    intro i fuel g' h hf h1 F1
    obtain ⟨f, rfl⟩ : ∃ f, fuel = f + 1 := ⟨fuel - 1, by omega⟩
    rw [st f g' i (by omega)]
    refine ih (i + 1) f _ (by omega) (by omega) (fun q hq => ?_) ?_
    · by_cases e : q = i
      · subst e; rw [pi_e]; exact (F1 S _ (by omega)).1
      · rw [pi_n (by omega)]; exact h1 q (by omega)
    · exact (F1.up fun c k q => by omega).p2 (by omega)
theorem cpl0 {β : Type} (L : Nat → gb_G → Int32 → Option β) (C S d s E : Nat) {P : β → Prop} (hs : ¬ C = S ∨ d ≤ s) (hE : E < gb_N) (g : gb_G) (st : ∀ f g i, i < E → L (f + 1) g (Int32.ofNat i) = L f (gb_pi g C (d + i) (g.1 S (s + i))) (Int32.ofNat (i + 1))) (fin : ∀ f g', (∀ i, i < E → g'.1 C (d + i) = g.1 S (s + i)) → gb_Fr (fun c k => c = C ∧ d ≤ k ∧ k < d + E) g g' → gb_T (L (f + 1) g' (Int32.ofNat E)) P) : gb_T (L gb_N g 0) P :=
  cpl L C S d s E hs g st fin E 0 gb_N g (by omega) hE (fun q hq => by omega) gb_Fr.rf
theorem xa (a i : Nat) : Int32.ofNat a + Int32.ofNat i = Int32.ofNat (a + i) := o_add a i
theorem drop_c {sh : List gb_Sh} {g : gb_G} {H : ms_H} {n : Nat} (hn : n ≤ 8) (hh : cvH g 33 H n) (hN : H.1 = 16) : gb_T (f_X3_dropOldest sh g 33) (fun o => cvH o 33 (hDrop H) n) := by
  obtain ⟨h0, h1⟩ := hh
  unfold f_X3_dropOldest
  rw [gb_cp_s (by decide), gb_let_s, gb_cp_s (by decide), gb_let_s, gb_cp_s (by decide), gb_let_s, gb_cp_s (by decide), gb_let_s, gb_let_s]
  have t0 : (0 : Int32).toNatClampNeg = 0 := by decide
  have t1 : (1 : Int32).toNatClampNeg = 1 := by decide
  have t8 : (8 : Int32).toNatClampNeg = 8 := by decide
  have t15 : (15 : Int32).toNatClampNeg = 15 := by decide
  have t120 : (120 : Int32).toNatClampNeg = 120 := by decide
  refine ⟨_, rfl, ?_, fun k hk => ?_⟩
  · rw [pi_e]; show (15 : Int32) = Int32.ofNat (H.1 - 1); rw [hN]; rfl
  · have hk' : k < 15 := by have : k < H.1 - 1 := hk; omega
    obtain ⟨a1, a2, a3, a4⟩ := h1 (k + 1) (by omega)
    have e : 1 + (k - 0) = k + 1 := by omega
    refine ⟨?_, fun q => ?_, fun q => ?_, fun q i hi => ?_⟩
    · show _ = Int32.ofNat (H.2.1 (k + 1))
      rw [← a1, pi_n (by omega), pa_n (by omega), pa_n (by omega), pa_n (by omega), pa_e, t0, t1, t15, pk_cpy_in (by omega) (by omega), e]
    · show _ = Int32.ofNat (H.2.2.1 (k + 1))
      rw [← a2 q, pi_n (by omega), pa_n (by omega), pa_n (by omega), pa_e, t0, t1, t15, pk_cpy_in (by omega) (by omega), pa_n (by omega), e]
    · show _ = H.2.2.2 (k + 1) (19 + H.2.2.1 (k + 1))
      rw [← a3 q, pi_n (by omega), pa_n (by omega), pa_e, t0, t1, t15, pk_cpy_in (by omega) (by omega), pa_n (by omega), pa_n (by omega), e]
    · show _ = H.2.2.2 (k + 1) (3 + i)
      rw [← a4 q i hi, pi_n (by omega), pa_e, t0, t8, t120, pk_cpy_in (by omega) (by omega), pa_n (by omega), pa_n (by omega), pa_n (by omega), show 8 + (8 * k + i - 0) = 8 * (k + 1) + i by omega]
theorem rem_c {sh : List gb_Sh} {β : ms_B} {H : ms_H} {g : gb_G} {K j : Nat} {x2 : Int32} (hw : wfB β) (hc : cvB sh g 1 β) (hh : cvH g 33 H (bN β)) (hN : H.1 ≤ 16) (hK : K ≤ 3) (hj : K < 3 → j < bN β ∧ x2 = Int32.ofNat j) : gb_T (f_X3_remember sh g 33 (Int32.ofNat K) x2 1) (fun o => cvH o 33 (hPush H K j (cur β)) (bN β)) := by
  unfold f_X3_remember hPush
  by_cases e : H.1 = 16
  · rw [if_neg (by rw [hh.1, e]; decide), if_pos e]
    obtain ⟨o, eo, ho⟩ := drop_c (sh := sh) hw.1 hh e
    refine gb_T.bs eo ?_
    have F := w_X3_dropOldest eo
    exact rem_13 hw (cvB_fr hc fun c k q => F c k (by omega)) ho (by show H.1 - 1 < 16; omega) hK hj
  · rw [if_pos (by rw [hh.1, show (16 : Int32) = Int32.ofNat 16 from rfl, o_lt (by omega) (by omega)]; omega), if_neg e]
    exact rem_13 hw hc hh (by omega) hK hj
/-! the reference -/
theorem ka_m {sh : List gb_Sh} {q : Nat} {g : gb_G} (hq : q < 18) : gb_T (f_X11_keepAll sh g (Int32.ofNat q)) (fun o => (∀ k, k < 27 → o.1 82 (27 * q + k) = g.1 79 (5 + k)) ∧ gb_Fr (fun c k => c = 82 ∧ 27 * q ≤ k ∧ k < 27 * q + 27) g o) := by
  unfold f_X11_keepAll
  refine cpl0 (fun fuel g y => f_X11_keepAll_2 sh fuel g (Int32.ofNat q) y) 82 79 (27 * q) 5 27 (by omega) (by unfold gb_N; omega) g (fun f g i hi => ?_) fun f g' h1 F => ?_
  · show f_X11_keepAll_2 sh (f + 1) g (Int32.ofNat q) (Int32.ofNat i) = f_X11_keepAll_2 sh f _ (Int32.ofNat q) _
    rw [f_X11_keepAll_2, if_neg (by rw [show (27 : Int32) = Int32.ofNat 27 from rfl, o_le (by omega) (by omega)]; omega), show (5 : Int32) = Int32.ofNat 5 from rfl, show (27 : Int32) = Int32.ofNat 27 from rfl, o_mul, o_add, o_add, gb_ck_s (o_in (by omega) (by omega)), gb_ck_s (o_in (by omega) (by omega)), gb_let_s, o_cl (by omega), o_cl (by omega), o_succ]
  · show gb_T (f_X11_keepAll_2 sh (f + 1) g' (Int32.ofNat q) (Int32.ofNat 27)) _
    rw [f_X11_keepAll_2, if_pos (by decide)]
    exact ⟨_, rfl, h1, F⟩
theorem pb_m {sh : List gb_Sh} {q : Nat} {g : gb_G} (hq : q < 18) : gb_T (f_X11_putBack sh g (Int32.ofNat q)) (fun o => (∀ k, k < 27 → o.1 79 (5 + k) = g.1 82 (27 * q + k)) ∧ gb_Fr (fun c k => c = 79 ∧ 5 ≤ k ∧ k < 5 + 27) g o) := by
  unfold f_X11_putBack
  refine cpl0 (fun fuel g y => f_X11_putBack_2 sh fuel g (Int32.ofNat q) y) 79 82 5 (27 * q) 27 (by omega) (by unfold gb_N; omega) g (fun f g i hi => ?_) fun f g' h1 F => ?_
  · show f_X11_putBack_2 sh (f + 1) g (Int32.ofNat q) (Int32.ofNat i) = f_X11_putBack_2 sh f _ (Int32.ofNat q) _
    rw [f_X11_putBack_2, if_neg (by rw [show (27 : Int32) = Int32.ofNat 27 from rfl, o_le (by omega) (by omega)]; omega), show (5 : Int32) = Int32.ofNat 5 from rfl, show (27 : Int32) = Int32.ofNat 27 from rfl, o_mul, o_add, o_add, gb_ck_s (o_in (by omega) (by omega)), gb_ck_s (o_in (by omega) (by omega)), gb_let_s, o_cl (by omega), o_cl (by omega), o_succ]
  · show gb_T (f_X11_putBack_2 sh (f + 1) g' (Int32.ofNat q) (Int32.ofNat 27)) _
    rw [f_X11_putBack_2, if_pos (by decide)]
    exact ⟨_, rfl, h1, F⟩
theorem rem77 {sh : List gb_Sh} {β : ms_B} {H : ms_H} {g : gb_G} {K j : Nat} (hw : wfB β) (hm : mvB (g.1 79) β) (hh : mvH g H (bN β)) (hN : H.1 < 16) : gb_T (f_X11_remember_77 sh g (Int32.ofNat K)) (fun o => mvH o (hAdd H K j (cur β)) (bN β)) := by
  unfold f_X11_remember_77
  rw [hh.1]
  obtain ⟨g1, e1, a1, F1⟩ := ka_m (sh := sh) (g := g) (q := H.1) (by omega)
  refine gb_T.bs e1 ?_
  have h8 : g1.1 77 8 = Int32.ofNat H.1 := (F1 77 8 (by omega)).1.trans hh.1
  rw [h8, gb_ck_s (o_in hN (by omega)), o_cl (by omega), gb_let_s, gb_let_s, pi_n (by omega), h8, o_succ]
  refine ⟨_, rfl, pi_e, fun k hk => ?_⟩
  have hk' : k < H.1 + 1 := hk
  show _ = Int32.ofNat (if k = H.1 then K else H.2.1 k) ∧ ∀ i, i < 27 → ms_rl (bN β) i → _ = (if k = H.1 then cur β else H.2.2.2 k) i
  rw [pi_n (by omega)]
  by_cases ek : k = H.1
  · rw [if_pos ek, if_pos ek, ek, pi_e]
    refine ⟨rfl, fun i hi hr => ?_⟩
    rw [pi_n (by omega), pi_n (by omega), a1 i hi, mv_cur hw hm hr]
  · rw [if_neg ek, if_neg ek, pi_n (by omega), (F1 83 k (by omega)).1]
    obtain ⟨b1, b2⟩ := hh.2 k (by omega)
    refine ⟨b1, fun i hi hr => ?_⟩
    rw [pi_n (by omega), pi_n (by omega), (F1 82 _ (by omega)).1]
    exact b2 i hi hr
theorem rem_m {sh : List gb_Sh} {β : ms_B} {H : ms_H} {g : gb_G} {K j : Nat} (hw : wfB β) (hm : mvB (g.1 79) β) (hh : mvH g H (bN β)) (hN : H.1 ≤ 16) : gb_T (f_X11_remember sh g (Int32.ofNat K)) (fun o => mvH o (hPush H K j (cur β)) (bN β)) := by
  have hn := hw.1
  unfold f_X11_remember hPush
  by_cases e : H.1 = 16
  · rw [if_pos (by rw [hh.1, e]; rfl), if_pos e]
    refine cpl0 (fun fuel g y => f_X11_remember_11 sh (fun w w0 => f_X11_remember_77 sh w w0) fuel g (Int32.ofNat K) y) 82 82 0 27 405 (by omega) (by unfold gb_N; omega) g (fun f g i hi => ?_) fun f g1 h1 F1 => ?_
    · show f_X11_remember_11 sh _ (f + 1) g (Int32.ofNat K) (Int32.ofNat i) = f_X11_remember_11 sh _ f _ (Int32.ofNat K) _
      rw [f_X11_remember_11, if_neg (by rw [show (405 : Int32) = Int32.ofNat 405 from rfl, o_le (by omega) (by omega)]; omega), show (27 : Int32) = Int32.ofNat 27 from rfl, o_add, gb_ck_s (o_in (by omega) (by omega)), gb_ck_s (o_in (by omega) (by omega)), gb_let_s, o_cl (by omega), o_cl (by omega), o_succ, Nat.add_comm i 27, Nat.zero_add]
    · show gb_T (f_X11_remember_11 sh _ (f + 1) g1 (Int32.ofNat K) (Int32.ofNat 405)) _
      rw [f_X11_remember_11, if_pos (by decide)]
      refine cpl0 (fun fuel g y => f_X11_remember_41 sh (fun w w0 => f_X11_remember_77 sh w w0) fuel g (Int32.ofNat K) y) 83 83 0 1 15 (by omega) (by unfold gb_N; omega) g1 (fun f g i hi => ?_) fun f g2 h2 F2 => ?_
      · show f_X11_remember_41 sh _ (f + 1) g (Int32.ofNat K) (Int32.ofNat i) = f_X11_remember_41 sh _ f _ (Int32.ofNat K) _
        rw [f_X11_remember_41, if_neg (by rw [show (15 : Int32) = Int32.ofNat 15 from rfl, o_le (by omega) (by omega)]; omega), o_succ, gb_ck_s (o_in (by omega) (by omega)), gb_ck_s (o_in (by omega) (by omega)), gb_let_s, o_cl (by omega), o_cl (by omega), Nat.add_comm 1 i, Nat.zero_add]
      · show gb_T (f_X11_remember_41 sh _ (f + 1) g2 (Int32.ofNat K) (Int32.ofNat 15)) _
        rw [f_X11_remember_41, if_pos (by decide), gb_let_s, (F2 77 8 (by omega)).1, (F1 77 8 (by omega)).1, hh.1, e]
        refine rem77 (H := hDrop H) (g := gb_pi g2 77 8 (Int32.ofNat 16 - 1)) hw ?_ ⟨?_, fun k hk => ?_⟩ (by show H.1 - 1 < 16; omega)
        · exact mvB_fr hm hw fun k _ => ((pi_n (by omega)).trans (F2 79 k (by omega)).1).trans (F1 79 k (by omega)).1
        · rw [pi_e]; show _ = Int32.ofNat (H.1 - 1); rw [e]; rfl
        · have hk' : k < 15 := by have : k < H.1 - 1 := hk; omega
          obtain ⟨b1, b2⟩ := hh.2 (k + 1) (by omega)
          refine ⟨?_, fun i hi hr => ?_⟩
          · show _ = Int32.ofNat (H.2.1 (k + 1))
            have h2' := h2 k hk'
            rw [Nat.zero_add] at h2'
            rw [← b1, pi_n (by omega), h2', (F1 83 _ (by omega)).1, Nat.add_comm]
          · show _ = H.2.2.2 (k + 1) i
            have h1' := h1 (27 * k + i) (by omega)
            rw [Nat.zero_add] at h1'
            rw [← b2 i hi hr, pi_n (by omega), (F2 82 _ (by omega)).1, h1', show 27 + (27 * k + i) = 27 * (k + 1) + i by omega]
  · rw [if_neg (fun q => e (by rw [hh.1] at q; exact o_inj (j := 16) (by omega) (by omega) q)), if_neg e]
    exact rem77 hw hm hh (by omega)
/-! what changes of a basket, changed -/
theorem cvB_cur {sh : List gb_Sh} {g g' : gb_G} {b : Nat} {β : ms_B} {s : Nat → Int32} (hw : wfB β) (hc : cvB sh g b β) (h1 : ∀ a, a < bN β → g'.1 (b + 1) (7 * a + 1) = s (3 + a) ∧ g'.1 (b + 1) (7 * a + 5) = s (11 + a) ∧ g'.1 (b + 1) (7 * a + 2) = s (19 + a)) (h2 : ∀ a j, a < bN β → j < 7 → ¬ j = 1 → ¬ j = 5 → ¬ j = 2 → g'.1 (b + 1) (7 * a + j) = g.1 (b + 1) (7 * a + j)) (h3 : ∀ j, j < 3 → g'.1 (b + 4) j = s j) (e : ∀ c k, c = b ∨ c = b + 2 ∨ c = b + 3 ∨ c = b + 5 ∨ 105 ≤ c → eqc g g' c k) : cvB sh g' b (bCur β s) := by
  obtain ⟨c0, c1, c2, c3, c4, c5, c6, c7, c8, c9⟩ := hc
  refine ⟨(e b 0 (by omega)).1.trans c0, fun i j hi hj => ?_, (e b 2 (by omega)).1.trans c2, fun p i hp hi => (e _ _ (by omega)).1.trans (c3 p i hp hi), (e b 4 (by omega)).1.trans c4, fun j hj => (e _ _ (by omega)).1.trans (c5 j hj), h3, (e b 7 (by omega)).1.trans c7, fun k lw hk => ?_, (e b 9 (by omega)).1.trans c9⟩
  · show _ = if j = 1 then s (3 + i) else if j = 5 then s (11 + i) else if j = 2 then s (19 + i) else bT β i j
    have hi' : i < bN β := hi
    by_cases e1 : j = 1
    · rw [if_pos e1, e1]; exact (h1 i hi').1
    · rw [if_neg e1]
      by_cases e5 : j = 5
      · rw [if_pos e5, e5]; exact (h1 i hi').2.1
      · rw [if_neg e5]
        by_cases e2 : j = 2
        · rw [if_pos e2, e2]; exact (h1 i hi').2.2
        · rw [if_neg e2, h2 i j hi' hj e1 e5 e2]; exact c1 i j hi' hj
  · obtain ⟨p, hp, hl⟩ := c8 k lw hk
    exact ⟨p, (e _ _ (by omega)).2.2.trans hp, cvL_fr hl fun c k hc => e c k (by omega)⟩
theorem mvB_cur {rho rho' : Nat → Int32} {β : ms_B} {s : Nat → Int32} (hw : wfB β) (hm : mvB rho β) (h1 : ∀ i, ms_rl (bN β) i → rho' (5 + i) = s i) (h2 : ∀ k, k < 5520 → ¬ (5 ≤ k ∧ k < 32) → rho' k = rho k) : mvB rho' (bCur β s) := by
  have hn := hw.1
  obtain ⟨w0, w1, w2, w3, w4, w5, w6, w7, w8, w9, w10, w11, w12⟩ := hw
  obtain ⟨m0, m1, m2, m3, m4, m5, m6, m7, m8, m9⟩ := hm
  refine ⟨(h2 0 (by omega) (by omega)).trans m0, fun i hi => ?_, (h2 1 (by omega) (by omega)).trans m2, fun p i hp hi => ?_, (h2 2 (by omega) (by omega)).trans m4, fun j hj => ?_, fun j hj => h1 j (by unfold ms_rl; omega), (h2 3 (by omega) (by omega)).trans m7, fun k lw hk => ?_, (h2 4 (by omega) (by omega)).trans m9⟩
  · have hi' : i < bN β := hi
    obtain ⟨a0, a1, a2, a3, a4, a5, a6⟩ := m1 i hi'
    refine ⟨(h2 _ (by omega) (by omega)).trans a0, ?_, ?_, (h2 _ (by omega) (by omega)).trans a3, (h2 _ (by omega) (by omega)).trans a4, ?_, (h2 _ (by omega) (by omega)).trans a6⟩
    · show rho' (8 + i) = s (3 + i)
      rw [← h1 (3 + i) (by unfold ms_rl; omega), show 5 + (3 + i) = 8 + i by omega]
    · show rho' (24 + i) = s (19 + i)
      rw [← h1 (19 + i) (by unfold ms_rl; omega), show 5 + (19 + i) = 24 + i by omega]
    · show rho' (16 + i) = s (11 + i)
      rw [← h1 (11 + i) (by unfold ms_rl; omega), show 5 + (11 + i) = 16 + i by omega]
  · have hp' : p < bP β := hp
    have hi' : i < bN β := hi
    rw [h2 _ (by omega) (by omega)]; exact m3 p i hp' hi'
  · have hj' : j < bH β := hj
    rw [h2 _ (by omega) (by omega)]; exact m5 j hj'
  · have hk' : (bL β)[k]? = some lw := hk
    have := nx hk'
    exact mvL_fr (m8 k lw hk') (w4 lw (List.mem_of_getElem? hk')).1 fun q hq => h2 _ (by omega) (by omega)
theorem cur_curf {β : ms_B} {s : Nat → Int32} : cur (bCur β s) = s := funext fun _ => cur_cur
def sSet (β : ms_B) (p : Nat) (v : Int32) (i : Nat) : Int32 := if i = p then v else cur β i
/-- the class, one trait of a GOOD written -/
theorem wr_cur {sh : List gb_Sh} {g : gb_G} {b : Nat} {β : ms_B} {a t p : Nat} {v : Int32} (hb : b + 5 < 105) (hw : wfB β) (hc : cvB sh g b β) (ha : a < bN β) (ht : (t = 1 ∧ p = 3 + a) ∨ (t = 5 ∧ p = 11 + a) ∨ (t = 2 ∧ p = 19 + a)) : cvB sh (gb_pi g (b + 1) (7 * a + t) v) b (bCur β (sSet β p v)) := by
  have hn := hw.1
  refine cvB_cur hw hc (fun q hq => ⟨?_, ?_, ?_⟩) (fun q j hq hj h1 h5 h2 => pi_n (by omega)) (fun j hj => ?_) fun c k q => ⟨pi_n (by omega), rfl, rfl⟩
  · unfold sSet
    by_cases e : 3 + q = p
    · have e1 : t = 1 := by omega
      have e2 : q = a := by omega
      rw [if_pos e, e1, e2, pi_e]
    · rw [if_neg e, cur_now (by omega), pi_n (by omega)]; exact hc.2.1 q 1 hq (by omega)
  · unfold sSet
    by_cases e : 11 + q = p
    · have e1 : t = 5 := by omega
      have e2 : q = a := by omega
      rw [if_pos e, e1, e2, pi_e]
    · rw [if_neg e, cur_la (by omega), pi_n (by omega)]; exact hc.2.1 q 5 hq (by omega)
  · unfold sSet
    by_cases e : 19 + q = p
    · have e1 : t = 2 := by omega
      have e2 : q = a := by omega
      rw [if_pos e, e1, e2, pi_e]
    · rw [if_neg e, cur_we, pi_n (by omega)]; exact hc.2.1 q 2 hq (by omega)
  · unfold sSet
    rw [if_neg (by omega), cur_te hj, pi_n (by omega)]; exact hc.2.2.2.2.2.2.1 j hj
theorem wr_curm {g : gb_G} {β : ms_B} {p : Nat} {v : Int32} (hw : wfB β) (hm : mvB (g.1 79) β) (hp : ms_rl (bN β) p) : mvB ((gb_pi g 79 (5 + p) v).1 79) (bCur β (sSet β p v)) := by
  have hn := hw.1
  refine mvB_cur hw hm (fun i hi => ?_) fun k hk hq => pi_n (by unfold ms_rl at hp; omega)
  unfold sSet
  by_cases e : i = p
  · rw [if_pos e, e, pi_e]
  · rw [if_neg e, pi_n (by omega)]; exact mv_cur hw hm hi
