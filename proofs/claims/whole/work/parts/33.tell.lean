/-! ===== what a LAW tells of a GOOD ===== -/
def ms_la (w : Nat → Int32) (kd : Nat) (lw : ms_L) : Nat → Option Int32
  | 0 => none
  | n + 1 => match lw[n]? with
    | none => ms_la w kd lw n
    | some q => if q.1 = kd then (ms_ho q w).or (ms_la w kd lw n) else ms_la w kd lw n
def ms_w (β : ms_B) (i : Nat) (j : Nat) : Int32 := if j = 0 then Int32.ofNat i else if j = 1 then bT β i 0 else if j = 2 then bT β i 1 else if j = 3 then bT β i 2 else if j = 4 then bT β i 3 else if j = 5 then bT β i 5 else if j = 6 then bT β i 4 else if j = 7 then bTe β 0 else bTe β 2
def ms_lw (β : ms_B) (F : Int32) : Option ms_L := if F = -1 then none else (bL β)[F.toNatClampNeg]?
def ms_tl (β : ms_B) (L : Option ms_L) (i kd : Nat) : Option Int32 := match L with
  | none => none
  | some lw => ms_la (ms_w β i) kd lw lw.length
def ms_as (β : ms_B) (o : Option Int32) (i kd : Nat) : Int32 := if kd = 0 then (match o with
    | none => 0
    | some v => ms_near v (-9) 9) else if kd = 1 then (if bT β i 5 = 1 ∧ bT β i 6 = -1 then 0 else match o with
    | none => bT β i 2
    | some v => ms_near v 0 99) else if kd = 2 then (match o with
    | none => bT β i 3
    | some v => ms_near v 0 9) else match o with
    | none => 0
    | some _ => 1
theorem as0_n {β : ms_B} {i : Nat} : ms_as β none i 0 = 0 := rfl
theorem as0_s {β : ms_B} {i : Nat} {v : Int32} : ms_as β (some v) i 0 = ms_near v (-9) 9 := rfl
theorem as1_o {β : ms_B} {i : Nat} {o : Option Int32} (h : bT β i 5 = 1 ∧ bT β i 6 = -1) : ms_as β o i 1 = 0 := by
  show (if bT β i 5 = 1 ∧ bT β i 6 = -1 then (0 : Int32) else _) = 0
  rw [if_pos h]
theorem as1_n {β : ms_B} {i : Nat} (h : ¬ (bT β i 5 = 1 ∧ bT β i 6 = -1)) : ms_as β none i 1 = bT β i 2 := by
  show (if bT β i 5 = 1 ∧ bT β i 6 = -1 then (0 : Int32) else _) = _
  rw [if_neg h]
theorem as1_s {β : ms_B} {i : Nat} {v : Int32} (h : ¬ (bT β i 5 = 1 ∧ bT β i 6 = -1)) : ms_as β (some v) i 1 = ms_near v 0 99 := by
  show (if bT β i 5 = 1 ∧ bT β i 6 = -1 then (0 : Int32) else _) = _
  rw [if_neg h]
theorem as2_n {β : ms_B} {i : Nat} : ms_as β none i 2 = bT β i 3 := rfl
theorem as2_s {β : ms_B} {i : Nat} {v : Int32} : ms_as β (some v) i 2 = ms_near v 0 9 := rfl
theorem as3_n {β : ms_B} {i : Nat} : ms_as β none i 3 = 0 := rfl
theorem as3_s {β : ms_B} {i : Nat} {v : Int32} : ms_as β (some v) i 3 = 1 := rfl
def wfL (lw : ms_L) : Prop := lw.length ≤ 12 ∧ ∀ q ∈ lw, wfQ q
def lq (sh : List gb_Sh) (g : gb_G) (q2 : Option Nat) (L : Option ms_L) : Prop := match L with
  | none => q2 = none
  | some lw => ∃ p, q2 = some p ∧ cvL sh g p lw ∧ wfL lw
theorem lq_fr {sh : List gb_Sh} {g g' : gb_G} {q2 : Option Nat} {L : Option ms_L} (h : lq sh g q2 L) (e : ∀ c k, 105 ≤ c → eqc g g' c k) : lq sh g' q2 L := by
  cases L with
  | none => exact h
  | some lw =>
    obtain ⟨p, a, b, c⟩ := h
    exact ⟨p, a, cvL_fr b e, c⟩
theorem ok_w {β : ms_B} {i : Nat} (hw : wfB β) (hi : i < bN β) : ok9 (ms_w β i) := by
  obtain ⟨a0, a1, a2, a3, a4, a5, a6⟩ := hw.2.2.2.2.2.2.1 i hi
  have hn := hw.1
  have t0 := hw.2.2.2.2.2.2.2.2.2.2.1
  have t2 := hw.2.2.2.2.2.2.2.2.2.2.2.2
  intro j hj
  unfold ms_w
  split
  · rw [im, o_int (by omega)]; omega
  split
  · exact im_mo a0 (by omega) (by omega)
  split
  · exact im_mo a1 (by omega) (by omega)
  split
  · exact im_mo a2 (by omega) (by omega)
  split
  · exact im_mo a3 (by omega) (by omega)
  split
  · exact im_mo a5 (by omega) (by omega)
  split
  · exact im_mo a4 (by omega) (by omega)
  split
  · exact im_mo t0 (by omega) (by omega)
  · exact im_mo t2 (by omega) (by omega)
theorem ho_im {q : ms_Q} {w : Nat → Int32} {v : Int32} (hq : wfQ q) (hw : ok9 w) (h : ms_ho q w = some v) : im (-1000000000) 1000000000 v := by
  unfold ms_ho at h
  split at h
  · exact hq.2.2.1 w v hw h
  · cases h
theorem la_im {w : Nat → Int32} {kd : Nat} {lw : ms_L} (hl : ∀ q ∈ lw, wfQ q) (hw : ok9 w) : ∀ n v, ms_la w kd lw n = some v → im (-1000000000) 1000000000 v := by
  intro n
  induction n with
  | zero => intro v h; cases h
  | succ n ih =>
    intro v h
    rw [ms_la] at h
    split at h
    · exact ih v h
    · rename_i q e
      split at h
      · cases e2 : ms_ho q w with
        | none => rw [e2] at h; exact ih v h
        | some u =>
          rw [e2] at h
          have : u = v := Option.some.inj h
          subst this
          exact ho_im (hl q (List.mem_of_getElem? e)) hw e2
      · exact ih v h
theorem tl_im {β : ms_B} {L : Option ms_L} {i kd : Nat} (hw : wfB β) (hi : i < bN β) (hl : ∀ lw, L = some lw → wfL lw) {v : Int32} (h : ms_tl β L i kd = some v) : im (-1000000000) 1000000000 v := by
  cases L with
  | none => cases h
  | some lw => exact la_im (hl lw rfl).2 (ok_w hw hi) _ v h
theorem br_ne {v : Int32} (h : im (-1000000000) 1000000000 v) : ¬ v = -2147483648 := by
  intro q
  rw [q, im, show (-2147483648 : Int32).toInt = -2147483648 from rfl] at h
  omega
theorem la_c {sh : List gb_Sh} {b1 p : Nat} {lw : ms_L} {K : gb_G → Int32 → Int32 → Int32 → Option (gb_G × Int32)} {y3 : Int32} {kd : Nat} {w : Nat → Int32} {P : gb_G × Int32 → Prop} (hl : wfL lw) (hw : ok9 w) (hkd : kd ≤ 3) : ∀ (n fuel : Nat) (g : gb_G), n ≤ lw.length → n < fuel → cvL sh g p lw → (∀ j, j < 9 → g.1 55 j = w j) → (∀ g', gb_Fr (fun c k => c = 53) g g' → gb_T (K g' y3 (Int32.ofNat kd) (ms_br (ms_la w kd lw n))) P) → gb_T (f_X4_tell_22 sh b1 K fuel g p y3 (Int32.ofNat kd) (-2147483648) (Int32.ofNat n - 1)) P := by
  intro n
  induction n with
  | zero =>
    intro fuel g hn hf hc hr hK
    obtain ⟨f, rfl⟩ : ∃ f, fuel = f + 1 := ⟨fuel - 1, by omega⟩
    rw [f_X4_tell_22, if_pos (by decide)]
    exact hK g gb_Fr.rf
  | succ n ih =>
    intro fuel g hn hf hc hr hK
    obtain ⟨f, rfl⟩ : ∃ f, fuel = f + 1 := ⟨fuel - 1, by omega⟩
    have hl12 := hl.1
    obtain ⟨q, eq⟩ : ∃ q, lw[n]? = some q := ⟨lw[n], List.getElem?_eq_getElem (by omega)⟩
    have hq := hl.2 q (List.mem_of_getElem? eq)
    have hok : ok9 (g.1 55) := fun j hj => by rw [hr j hj]; exact hw j hj
    have hc5 := hc.2.2.2.2 n q eq
    obtain ⟨cw1, cw2⟩ := hq.2.2.2 (g.1 55) w hr
    rw [f_X4_tell_22, o_pred, if_neg (by rw [show (0 : Int32) = Int32.ofNat 0 from rfl, o_lt (by omega) (by omega)]; omega), if_pos rfl, hc.2.2.2.1, gb_ck_s (o_in (by omega) (by omega)), o_cl (by omega), hc5.1]
    have la : ms_la w kd lw (n + 1) = if q.1 = kd then (ms_ho q w).or (ms_la w kd lw n) else ms_la w kd lw n := by rw [ms_la, eq]
    unfold f_X4_tell_82
    rw [show Int32.ofNat n + (-1) = Int32.ofNat n - 1 from (Int32.sub_eq_add_neg _ _).symm]
    by_cases ek : q.1 = kd
    · rw [if_pos ek] at la
      rw [if_pos (by rw [ek])]
      obtain ⟨-, g2, e2⟩ := hc5.2 g (fun i k _ => rfl) hok
      rw [cw2] at e2
      have F2 := w_X5_run e2
      refine gb_T.bs e2 ?_
      have hc2 : cvL sh g2 p lw := cvL_fr hc fun c k hck => F2 c k (by omega)
      have hr2 : ∀ j, j < 9 → g2.1 55 j = w j := fun j hj => by rw [(F2 55 j (by omega)).1]; exact hr j hj
      by_cases ht : q.2.2 w = some true
      · have h1 : ms_tb (q.2.2 w) = 1 := by rw [ht]; rfl
        simp only []
        rw [if_pos h1]
        have hho : ms_ho q w = q.2.1 w := if_pos ht
        have hok2 : ok9 (g2.1 55) := fun j hj => by rw [hr2 j hj]; exact hw j hj
        obtain ⟨⟨g3, e3⟩, -⟩ := (hc2.2.2.2.2 n q eq).2 g2 (fun i k _ => rfl) hok2
        rw [(hq.2.2.2 (g2.1 55) w hr2).1] at e3
        have F3 := w_X5_run e3
        refine gb_T.bs e3 ?_
        simp only []
        have F23 : gb_Fr (fun c k => c = 53) g g3 := F2.tr F3
        cases ev : q.2.1 w with
        | none =>
          rw [hho, ev] at la
          refine ih f g3 (by omega) (by omega) (cvL_fr hc2 fun c k hck => F3 c k (by omega)) (fun j hj => by rw [(F3 55 j (by omega)).1]; exact hr2 j hj) fun g' F' => ?_
          have := hK g' (F23.tr F')
          rw [la] at this
          exact this
        | some v =>
          rw [hho, ev] at la
          have hv : ¬ v = -2147483648 := br_ne (hq.2.2.1 w v hw ev)
          obtain ⟨f', rfl⟩ : ∃ f', f = f' + 1 := ⟨f - 1, by omega⟩
          have hK' := hK g3 F23
          rw [la] at hK'
          show gb_T (f_X4_tell_22 sh b1 K (f' + 1) g3 p y3 (Int32.ofNat kd) v (Int32.ofNat n - 1)) P
          rw [f_X4_tell_22, if_neg hv]
          split
          · exact hK'
          · exact hK'
      · have h1 : ¬ ms_tb (q.2.2 w) = 1 := by
          cases e : q.2.2 w with
          | none => decide
          | some b => cases b with
            | false => decide
            | true => exact absurd e ht
        simp only []
        rw [if_neg h1]
        have hho : ms_ho q w = none := if_neg ht
        rw [hho] at la
        refine ih f g2 (by omega) (by omega) hc2 hr2 fun g' F' => ?_
        have := hK g' (F2.tr F')
        rw [la] at this
        exact this
    · rw [if_neg ek] at la
      rw [if_neg (fun z => ek (o_inj (by have := hq.1; omega) (by omega) z))]
      refine ih f g (by omega) (by omega) hc hr fun g' F' => ?_
      have := hK g' F'
      rw [la] at this
      exact this
theorem fw_c {sh : List gb_Sh} {g : gb_G} {b i : Nat} {β : ms_B} (hb : b + 5 < 53) (hw : wfB β) (hc : cvB sh g b β) (hi : i < bN β) : gb_T (f_X4_fillWords sh g b (Int32.ofNat i)) (fun o => ∀ j, j < 9 → o.1 55 j = ms_w β i j) := by
  have K : ∀ g', gb_Fr (fun c k => c = 55) g g' → cvB sh g' b β := fun g' F => cvB_fr hc fun c k q => F c k (by omega)
  obtain ⟨q0, hq0⟩ : ∃ q, q = gb_pi g 55 0 (Int32.ofNat i) := ⟨_, rfl⟩
  have F0 : gb_Fr (fun c k => c = 55) g q0 := by rw [hq0]; exact gb_Fr.p2 gb_Fr.rf rfl
  obtain ⟨q1, hq1⟩ : ∃ q, q = gb_pi q0 55 1 (bT β i 0) := ⟨_, rfl⟩
  have F1 : gb_Fr (fun c k => c = 55) g q1 := by rw [hq1]; exact gb_Fr.p2 F0 rfl
  obtain ⟨q2, hq2⟩ : ∃ q, q = gb_pi q1 55 2 (bT β i 1) := ⟨_, rfl⟩
  have F2 : gb_Fr (fun c k => c = 55) g q2 := by rw [hq2]; exact gb_Fr.p2 F1 rfl
  obtain ⟨q3, hq3⟩ : ∃ q, q = gb_pi q2 55 3 (bT β i 2) := ⟨_, rfl⟩
  have F3 : gb_Fr (fun c k => c = 55) g q3 := by rw [hq3]; exact gb_Fr.p2 F2 rfl
  obtain ⟨q4, hq4⟩ : ∃ q, q = gb_pi q3 55 4 (bT β i 3) := ⟨_, rfl⟩
  have F4 : gb_Fr (fun c k => c = 55) g q4 := by rw [hq4]; exact gb_Fr.p2 F3 rfl
  obtain ⟨q5, hq5⟩ : ∃ q, q = gb_pi q4 55 5 (bT β i 5) := ⟨_, rfl⟩
  have F5 : gb_Fr (fun c k => c = 55) g q5 := by rw [hq5]; exact gb_Fr.p2 F4 rfl
  obtain ⟨q6, hq6⟩ : ∃ q, q = gb_pi q5 55 6 (bT β i 4) := ⟨_, rfl⟩
  have F6 : gb_Fr (fun c k => c = 55) g q6 := by rw [hq6]; exact gb_Fr.p2 F5 rfl
  obtain ⟨q7, hq7⟩ : ∃ q, q = gb_pi q6 55 7 (bTe β 0) := ⟨_, rfl⟩
  have F7 : gb_Fr (fun c k => c = 55) g q7 := by rw [hq7]; exact gb_Fr.p2 F6 rfl
  obtain ⟨q8, hq8⟩ : ∃ q, q = gb_pi q7 55 8 (bTe β 2) := ⟨_, rfl⟩
  have F8 : gb_Fr (fun c k => c = 55) g q8 := by rw [hq8]; exact gb_Fr.p2 F7 rfl
  have r : f_X4_fillWords sh g b (Int32.ofNat i) = some q8 := by
    unfold f_X4_fillWords
    rw [gb_let_s, ← hq0, rd_t (y := 0) (j := 0) hw (K _ F0) rfl hi rfl (by omega), gb_bd_s, gb_let_s, ← hq1, rd_t (y := 1) (j := 1) hw (K _ F1) rfl hi rfl (by omega), gb_bd_s, gb_let_s, ← hq2, rd_t (y := 2) (j := 2) hw (K _ F2) rfl hi rfl (by omega), gb_bd_s, gb_let_s, ← hq3, rd_t (y := 3) (j := 3) hw (K _ F3) rfl hi rfl (by omega), gb_bd_s, gb_let_s, ← hq4, rd_t (y := 5) (j := 5) hw (K _ F4) rfl hi rfl (by omega), gb_bd_s, gb_let_s, ← hq5, rd_t (y := 4) (j := 4) hw (K _ F5) rfl hi rfl (by omega), gb_bd_s, gb_let_s, ← hq6]
    rw [gb_let_s, show q6.1 (b + 4) 0 = bTe β 0 from (K _ F6).2.2.2.2.2.2.1 0 (by omega), ← hq7, gb_let_s, show q7.1 (b + 4) 2 = bTe β 2 from (K _ F7).2.2.2.2.2.2.1 2 (by omega), ← hq8]
  refine ⟨q8, r, fun j hj => ?_⟩
  have hj' : j = 0 ∨ j = 1 ∨ j = 2 ∨ j = 3 ∨ j = 4 ∨ j = 5 ∨ j = 6 ∨ j = 7 ∨ j = 8 := by omega
  rcases hj' with rfl | rfl | rfl | rfl | rfl | rfl | rfl | rfl | rfl
  · rw [hq8, pi_n (by omega), hq7, pi_n (by omega), hq6, pi_n (by omega), hq5, pi_n (by omega), hq4, pi_n (by omega), hq3, pi_n (by omega), hq2, pi_n (by omega), hq1, pi_n (by omega), hq0, pi_e]; rfl
  · rw [hq8, pi_n (by omega), hq7, pi_n (by omega), hq6, pi_n (by omega), hq5, pi_n (by omega), hq4, pi_n (by omega), hq3, pi_n (by omega), hq2, pi_n (by omega), hq1, pi_e]; rfl
  · rw [hq8, pi_n (by omega), hq7, pi_n (by omega), hq6, pi_n (by omega), hq5, pi_n (by omega), hq4, pi_n (by omega), hq3, pi_n (by omega), hq2, pi_e]; rfl
  · rw [hq8, pi_n (by omega), hq7, pi_n (by omega), hq6, pi_n (by omega), hq5, pi_n (by omega), hq4, pi_n (by omega), hq3, pi_e]; rfl
  · rw [hq8, pi_n (by omega), hq7, pi_n (by omega), hq6, pi_n (by omega), hq5, pi_n (by omega), hq4, pi_e]; rfl
  · rw [hq8, pi_n (by omega), hq7, pi_n (by omega), hq6, pi_n (by omega), hq5, pi_e]; rfl
  · rw [hq8, pi_n (by omega), hq7, pi_n (by omega), hq6, pi_e]; rfl
  · rw [hq8, pi_n (by omega), hq7, pi_e]; rfl
  · rw [hq8, pi_e]; rfl
theorem so_c {sh : List gb_Sh} {g : gb_G} {b i : Nat} {β : ms_B} (hw : wfB β) (hc : cvB sh g b β) (hi : i < bN β) : f_X0_sourceOf sh g b (Int32.ofNat i) = some (g, if bT β i 5 = 1 then bT β i 6 else Int32.ofNat i) := by
  unfold f_X0_sourceOf
  rw [rd_t (y := 5) (j := 5) hw hc rfl hi rfl (by omega), gb_bd_s, rd_t (y := 6) (j := 6) hw hc rfl hi rfl (by omega)]
  by_cases e : bT β i 5 = 1
  · rw [if_pos e, if_pos e]; rfl
  · rw [if_neg e, if_neg e]
theorem tell_88 {sh : List gb_Sh} {g : gb_G} {b i kd : Nat} {β : ms_B} {o : Option Int32} (hw : wfB β) (hc : cvB sh g b β) (hi : i < bN β) (hkd : kd ≤ 3) (ho : ∀ v, o = some v → im (-1000000000) 1000000000 v) : f_X4_tell_88 sh b g (Int32.ofNat i) (Int32.ofNat kd) (ms_br o) = some (g, ms_as β o i kd) := by
  have hn := hw.1
  have hso := so_c hw hc hi
  have hz : f_X4_tell_88 sh b g (Int32.ofNat i) (Int32.ofNat kd) (ms_br o) = f_X4_tell_100 sh b g (Int32.ofNat i) (Int32.ofNat kd) (ms_br o) (if o = none then 1 else 0) := by
    unfold f_X4_tell_88
    cases o with
    | none => rw [if_pos (show ms_br none = -2147483648 from rfl), if_pos rfl]
    | some v => rw [if_neg (show ¬ ms_br (some v) = -2147483648 from br_ne (ho v rfl)), if_neg (by simp)]
  rw [hz]
  have hkd' : kd = 0 ∨ kd = 1 ∨ kd = 2 ∨ kd = 3 := by omega
  unfold f_X4_tell_100
  rcases hkd' with rfl | rfl | rfl | rfl
  · rw [if_pos (by decide)]
    cases o with
    | none => rw [if_pos rfl, if_neg (by decide)]; rfl
    | some v => rw [if_neg (show ¬ some v = none by simp), if_pos rfl, near_e]; rfl
  · rw [if_neg (by decide), if_pos (by decide), hso, gb_bd_s]
    have hout : (if bT β i 5 = 1 then bT β i 6 else Int32.ofNat i) = -1 ↔ bT β i 5 = 1 ∧ bT β i 6 = -1 := by
      by_cases e : bT β i 5 = 1
      · rw [if_pos e]; exact ⟨fun h => ⟨e, h⟩, fun h => h.2⟩
      · rw [if_neg e]; exact ⟨fun h => absurd h (o_ne1 (by omega)), fun h => absurd h.1 e⟩
    by_cases e : bT β i 5 = 1 ∧ bT β i 6 = -1
    · simp only []
      rw [if_pos (hout.2 e), as1_o e]
    · simp only []
      rw [if_neg (fun h => e (hout.1 h))]
      cases o with
      | none => rw [if_pos rfl, if_neg (by decide), rd_t (y := 2) (j := 2) hw hc rfl hi rfl (by omega), as1_n e]; rfl
      | some v => rw [if_neg (show ¬ some v = none by simp), if_pos rfl, near_e, as1_s e]; rfl
  · rw [if_neg (by decide), if_neg (by decide), if_pos (by decide)]
    cases o with
    | none => rw [if_pos rfl, if_neg (by decide), rd_t (y := 3) (j := 3) hw hc rfl hi rfl (by omega)]; rfl
    | some v => rw [if_neg (show ¬ some v = none by simp), if_pos rfl, near_e]; rfl
  · rw [if_neg (by decide), if_neg (by decide), if_neg (by decide)]
    cases o with
    | none => rw [if_pos rfl, if_neg (by decide)]; rfl
    | some v => rw [if_neg (show ¬ some v = none by simp), if_pos rfl]; rfl
theorem gdX7_s {α : Type} {sh : List gb_Sh} {p : Nat} {r : Option α} (h : gb_okX7 sh p) : gb_gdX7 sh p r = r := by
  unfold gb_gdX7
  rw [if_pos h]
theorem tell_c {sh : List gb_Sh} {g : gb_G} {b i kd : Nat} {β : ms_B} {L : Option ms_L} {q2 : Option Nat} (hb : b + 5 < 53) (hw : wfB β) (hc : cvB sh g b β) (hi : i < bN β) (hkd : kd ≤ 3) (hL : lq sh g q2 L) : gb_T (f_X4_tell sh g b q2 (Int32.ofNat i) (Int32.ofNat kd)) (fun o => o.2 = ms_as β (ms_tl β L i kd) i kd) := by
  cases L with
  | none =>
    have e : q2 = none := hL
    subst e
    exact ⟨_, tell_88 (o := none) hw hc hi hkd (fun v h => by cases h), rfl⟩
  | some lw =>
    obtain ⟨p, e, hp, hl⟩ := hL
    subst e
    show gb_T (gb_gdX7 sh p _) _
    rw [gdX7_s hp.1]
    obtain ⟨g1, e1, r1⟩ := fw_c (i := i) hb hw hc hi
    have F1 := w_X4_fillWords e1
    refine gb_T.bs e1 ?_
    have hp1 : cvL sh g1 p lw := cvL_fr hp fun c k q => F1 c k (by omega)
    rw [hp1.2.2.1]
    refine la_c (w := ms_w β i) hl (ok_w hw hi) hkd lw.length gb_N g1 (Nat.le_refl _) (by have := hl.1; unfold gb_N; omega) hp1 r1 fun g' F' => ?_
    refine ⟨_, tell_88 (o := ms_la (ms_w β i) kd lw lw.length) hw (cvB_fr (cvB_fr hc fun c k q => F1 c k (by omega)) fun c k q => F' c k (by omega)) hi hkd (fun v h => la_im hl.2 (ok_w hw hi) _ v h), rfl⟩
theorem lawAt_c {sh : List gb_Sh} {g : gb_G} {b : Nat} {β : ms_B} {F : Int32} (hw : wfB β) (hc : cvB sh g b β) (hF : im (-1) (((bL β).length : Int) - 1) F) : ∃ q2, f_X0_lawAt sh g b F = some (g, q2) ∧ lq sh g q2 (ms_lw β F) := by
  have hl := hw.2.2.2.1
  unfold f_X0_lawAt ms_lw
  rw [hc.2.2.2.2.2.2.2.1]
  by_cases e : F = -1
  · subst e
    rw [within_f (lo := 0) (hi := ((bL β).length : Int) - 1) (fun q => by have := q.1; rw [show (-1 : Int32).toInt = -1 from rfl] at this; omega) rfl (n_pred (by omega)), bf, if_pos rfl]
    exact ⟨none, rfl, rfl⟩
  · have h2 : ¬ F.toInt = (-1 : Int32).toInt := fun q => e (Int32.toInt_inj.1 q)
    rw [show (-1 : Int32).toInt = -1 from rfl] at h2
    have hF' : im 0 (((bL β).length : Int) - 1) F := ⟨by have := hF.1; omega, hF.2⟩
    obtain ⟨k, hk, rfl⟩ := o_of hF'
    rw [within_t hF' rfl (n_pred (by omega)), bt, if_neg e, gb_ck_s (o_in (by omega) (by omega)), o_cl (by omega)]
    have ek : (bL β)[k]? = some (bL β)[k] := List.getElem?_eq_getElem hk
    rw [ek]
    obtain ⟨p, hp, hp2⟩ := hc.2.2.2.2.2.2.2.2.1 k _ ek
    exact ⟨some p, by rw [hp], p, rfl, hp2, hw.2.2.2.2.1 _ (List.mem_of_getElem? ek)⟩
theorem lif_c {sh : List gb_Sh} {g : gb_G} {b : Nat} {β : ms_B} (hw : wfB β) (hc : cvB sh g b β) : ∃ q2, f_X0_lawInForce sh g b = some (g, q2) ∧ lq sh g q2 (ms_lw β (bF β)) := by
  obtain ⟨q2, e, h⟩ := lawAt_c hw hc hw.2.2.2.2.2.1
  unfold f_X0_lawInForce
  rw [hc.2.2.2.2.2.2.2.2.2, e]
  exact ⟨q2, rfl, h⟩
/-! the reference's -/
theorem la_m {sh : List gb_Sh} {lw : ms_L} {a kd : Nat} {w : Nat → Int32} {x3 : Int64} {rho : Nat → Int32} (ha : a + 900 ≤ 5520) (hl : wfL lw) (hw : ok9 w) (hkd : kd ≤ 3) (hm : mvL rho a lw) : ∀ (m c fuel : Nat) (g : gb_G), c + m = lw.length → m < fuel → (∀ k, k < 900 → g.1 79 (a + k) = rho (a + k)) → g.1 77 34 = Int32.ofNat a → g.1 77 20 = 0 → (∀ j, j < 9 → g.2.1 95 (j + 1) = (w j).toInt64) → gb_T (f_X11_tells_170 sh fuel g (Int32.ofNat kd) (match ms_la w kd lw c with
      | none => x3
      | some v => v.toInt64) (Int32.ofNat c)) (fun o => o.2 = match ms_la w kd lw lw.length with
      | none => x3
      | some v => v.toInt64) := by
  have hl12 := hl.1
  intro m
  induction m with
  | zero =>
    intro c fuel g h hf h1 h2 h3 h4
    obtain ⟨f, rfl⟩ : ∃ f, fuel = f + 1 := ⟨fuel - 1, by omega⟩
    have e : c = lw.length := by omega
    subst e
    rw [f_X11_tells_170, h2, o_succ, gb_ck_s (o_in (by omega) (by omega)), o_cl (by omega), h1 1 (by omega), hm.1, if_pos (Int32.le_refl _)]
    exact ⟨_, rfl, rfl⟩
  | succ m ih =>
    intro c fuel g h hf h1 h2 h3 h4
    obtain ⟨f, rfl⟩ : ∃ f, fuel = f + 1 := ⟨fuel - 1, by omega⟩
    obtain ⟨q, eq⟩ : ∃ q, lw[c]? = some q := ⟨lw[c], List.getElem?_eq_getElem (by omega)⟩
    have hq := hl.2 q (List.mem_of_getElem? eq)
    have la : ms_la w kd lw (c + 1) = if q.1 = kd then (ms_ho q w).or (ms_la w kd lw c) else ms_la w kd lw c := by rw [ms_la, eq]
    obtain ⟨m1, m2⟩ := hm.2 c q eq
    rw [f_X11_tells_170, h2, o_succ, gb_ck_s (o_in (by omega) (by omega)), o_cl (by omega), h1 1 (by omega), hm.1, if_neg (by rw [o_le (by omega) (by omega)]; omega)]
    rw [show Int32.ofNat a + 2 + 8 * Int32.ofNat c = Int32.ofNat (a + 2 + 8 * c) by rw [show (2 : Int32) = Int32.ofNat 2 from rfl, show (8 : Int32) = Int32.ofNat 8 from rfl, o_mul, o_add, o_add], gb_ck_s (o_in (by omega) (by omega)), o_cl (by omega), show g.1 79 (a + 2 + 8 * c) = Int32.ofNat q.1 by rw [Nat.add_assoc, h1 (2 + 8 * c) (by omega), ← Nat.add_assoc]; exact m1]
    unfold f_X11_tells_233 f_X11_tells_235
    rw [o_succ]
    by_cases ek : q.1 = kd
    · rw [if_pos ek] at la
      rw [if_pos (by rw [ek])]
      obtain ⟨g2, e2, v2⟩ := m2 sh g w hw h1 h2 h3 h4
      have F2 := w_X11_isSo e2
      refine gb_T.bs e2 ?_
      simp only []
      have k1 : ∀ k, k < 900 → g2.1 79 (a + k) = rho (a + k) := fun k hk => by rw [(F2 79 _ (by omega)).1]; exact h1 k hk
      have k2 : g2.1 77 34 = Int32.ofNat a := by rw [(F2 77 34 (by omega)).1]; exact h2
      have k3 : g2.1 77 20 = 0 := by rw [(F2 77 20 (by omega)).1]; exact h3
      have k4 : ∀ j, j < 9 → g2.2.1 95 (j + 1) = (w j).toInt64 := fun j hj => by rw [(F2 95 _ (by omega)).2.1]; exact h4 j hj
      have ih2 := ih (c + 1) f g2 (by omega) (by omega) k1 k2 k3 k4
      cases ev : ms_ho q w with
      | none =>
        rw [if_pos (by rfl)]
        rw [la, ev] at ih2
        exact ih2
      | some v =>
        rw [if_neg (by simp)]
        rw [la, ev] at ih2
        by_cases k3' : kd = 3
        · rw [if_pos (by rw [k3']; rfl)]
          have e1 : v = 1 := by
            unfold ms_ho at ev
            split at ev
            · have := hq.2.1 (ek.trans k3') w
              rw [this] at ev
              exact (Option.some.inj ev).symm
            · cases ev
          subst e1
          rw [o_succ]
          exact ih2
        · rw [if_neg (show ¬ Int32.ofNat kd = 3 from fun z => k3' (o_inj (j := 3) (by omega) (by omega) z)), v2 v ev (by omega), o_succ]
          exact ih2
    · rw [if_neg ek] at la
      rw [if_neg (fun z => ek (o_inj (by have := hq.1; omega) (by omega) z))]
      have ih2 := ih (c + 1) f g (by omega) (by omega) h1 h2 h3 h4
      rw [la] at ih2
      exact ih2
theorem tells_m {sh : List gb_Sh} {g : gb_G} {β : ms_B} {i kd : Nat} {x3 : Int64} (hw : wfB β) (hm : mvB (g.1 79) β) (h20 : g.1 77 20 = 0) (hi : i < bN β) (hkd : kd ≤ 3) : gb_T (f_X11_tells sh g (Int32.ofNat kd) (Int32.ofNat i) x3) (fun o => o.2 = match ms_tl β (ms_lw β (bF β)) i kd with
      | none => x3
      | some v => v.toInt64) := by
  have hn := hw.1
  have hl6 := hw.2.2.2.1
  have hF := hw.2.2.2.2.2.1
  unfold f_X11_tells ms_lw
  rw [hm.2.2.2.2.2.2.2.2.2]
  by_cases e : bF β = -1
  · rw [if_pos e, if_pos e]
    exact ⟨_, rfl, rfl⟩
  · rw [if_neg e, if_neg e]
    have h2 : ¬ (bF β).toInt = (-1 : Int32).toInt := fun q => e (Int32.toInt_inj.1 q)
    rw [show (-1 : Int32).toInt = -1 from rfl] at h2
    obtain ⟨f, hf, ef⟩ := o_of (x := bF β) (n := (bL β).length) ⟨by have := hF.1; omega, hF.2⟩
    rw [ef, o_cl (by omega), show (120 : Int32) + 900 * Int32.ofNat f = Int32.ofNat (120 + 900 * f) by rw [show (120 : Int32) = Int32.ofNat 120 from rfl, show (900 : Int32) = Int32.ofNat 900 from rfl, o_mul, o_add]]
    have ek : (bL β)[f]? = some (bL β)[f] := List.getElem?_eq_getElem hf
    rw [ek]
    have hl : wfL (bL β)[f] := hw.2.2.2.2.1 _ (List.mem_of_getElem? ek)
    have hmv := hm.2.2.2.2.2.2.2.2.1 f _ ek
    obtain ⟨a0, a1, a2, a3, a4, a5, a6⟩ := hm.2.1 i hi
    have t0 := hm.2.2.2.2.2.2.1 0 (by omega)
    have t2 := hm.2.2.2.2.2.2.1 2 (by omega)
    obtain ⟨r, hr⟩ : ∃ q, q = gb_pi g 77 34 (Int32.ofNat (120 + 900 * f)) := ⟨_, rfl⟩
    have e79 : r.1 79 = g.1 79 := by rw [hr]; rfl
    obtain ⟨q0, hq0⟩ : ∃ q, q = gb_pj r 95 1 ((Int32.ofNat i).toInt64) := ⟨_, rfl⟩
    have F0 : gb_Fr (fun c k => c = 95) r q0 := by rw [hq0]; exact gb_Fr.tr gb_Fr.rf (gb_Fr.pj rfl rfl)
    have e0 : ∀ k, q0.1 79 k = g.1 79 k := fun k => by rw [(F0 79 k (by omega)).1, e79]
    obtain ⟨q1, hq1⟩ : ∃ q, q = gb_pj q0 95 2 ((bT β i 0).toInt64) := ⟨_, rfl⟩
    have F1 : gb_Fr (fun c k => c = 95) r q1 := by rw [hq1]; exact gb_Fr.tr F0 (gb_Fr.pj rfl rfl)
    have e1 : ∀ k, q1.1 79 k = g.1 79 k := fun k => by rw [(F1 79 k (by omega)).1, e79]
    obtain ⟨q2, hq2⟩ : ∃ q, q = gb_pj q1 95 3 ((bT β i 1).toInt64) := ⟨_, rfl⟩
    have F2 : gb_Fr (fun c k => c = 95) r q2 := by rw [hq2]; exact gb_Fr.tr F1 (gb_Fr.pj rfl rfl)
    have e2 : ∀ k, q2.1 79 k = g.1 79 k := fun k => by rw [(F2 79 k (by omega)).1, e79]
    obtain ⟨q3, hq3⟩ : ∃ q, q = gb_pj q2 95 4 ((bT β i 2).toInt64) := ⟨_, rfl⟩
    have F3 : gb_Fr (fun c k => c = 95) r q3 := by rw [hq3]; exact gb_Fr.tr F2 (gb_Fr.pj rfl rfl)
    have e3 : ∀ k, q3.1 79 k = g.1 79 k := fun k => by rw [(F3 79 k (by omega)).1, e79]
    obtain ⟨q4, hq4⟩ : ∃ q, q = gb_pj q3 95 5 ((bT β i 3).toInt64) := ⟨_, rfl⟩
    have F4 : gb_Fr (fun c k => c = 95) r q4 := by rw [hq4]; exact gb_Fr.tr F3 (gb_Fr.pj rfl rfl)
    have e4 : ∀ k, q4.1 79 k = g.1 79 k := fun k => by rw [(F4 79 k (by omega)).1, e79]
    obtain ⟨q5, hq5⟩ : ∃ q, q = gb_pj q4 95 6 ((bT β i 5).toInt64) := ⟨_, rfl⟩
    have F5 : gb_Fr (fun c k => c = 95) r q5 := by rw [hq5]; exact gb_Fr.tr F4 (gb_Fr.pj rfl rfl)
    have e5 : ∀ k, q5.1 79 k = g.1 79 k := fun k => by rw [(F5 79 k (by omega)).1, e79]
    obtain ⟨q6, hq6⟩ : ∃ q, q = gb_pj q5 95 7 ((bT β i 4).toInt64) := ⟨_, rfl⟩
    have F6 : gb_Fr (fun c k => c = 95) r q6 := by rw [hq6]; exact gb_Fr.tr F5 (gb_Fr.pj rfl rfl)
    have e6 : ∀ k, q6.1 79 k = g.1 79 k := fun k => by rw [(F6 79 k (by omega)).1, e79]
    obtain ⟨q7, hq7⟩ : ∃ q, q = gb_pj q6 95 8 ((bTe β 0).toInt64) := ⟨_, rfl⟩
    have F7 : gb_Fr (fun c k => c = 95) r q7 := by rw [hq7]; exact gb_Fr.tr F6 (gb_Fr.pj rfl rfl)
    have e7 : ∀ k, q7.1 79 k = g.1 79 k := fun k => by rw [(F7 79 k (by omega)).1, e79]
    obtain ⟨q8, hq8⟩ : ∃ q, q = gb_pj q7 95 9 ((bTe β 2).toInt64) := ⟨_, rfl⟩
    have F8 : gb_Fr (fun c k => c = 95) r q8 := by rw [hq8]; exact gb_Fr.tr F7 (gb_Fr.pj rfl rfl)
    have e8 : ∀ k, q8.1 79 k = g.1 79 k := fun k => by rw [(F8 79 k (by omega)).1, e79]
    have ck : ∀ (k : Nat), k ≤ 56 → ∀ {α : Type} {y : Option α}, gb_ck (Int32.ofNat k + Int32.ofNat i) 5520 y = y := fun k hk α y => by rw [o_add]; exact gb_ck_s (o_in (by omega) (by omega))
    have cl : ∀ (k : Nat), k ≤ 56 → (Int32.ofNat k + Int32.ofNat i).toNatClampNeg = k + i := fun k hk => by rw [o_add]; exact o_cl (by omega)
    rw [gb_let_s, ← hr, gb_let_s, ← hq0]
    rw [show (32 : Int32) = Int32.ofNat 32 from rfl, ck 32 (by omega), cl 32 (by omega), e0, a0, gb_let_s, ← hq1]
    rw [show (8 : Int32) = Int32.ofNat 8 from rfl, ck 8 (by omega), cl 8 (by omega), e1, a1, gb_let_s, ← hq2]
    rw [show (24 : Int32) = Int32.ofNat 24 from rfl, ck 24 (by omega), cl 24 (by omega), e2, a2, gb_let_s, ← hq3]
    rw [show (40 : Int32) = Int32.ofNat 40 from rfl, ck 40 (by omega), cl 40 (by omega), e3, a3, gb_let_s, ← hq4]
    rw [show (16 : Int32) = Int32.ofNat 16 from rfl, ck 16 (by omega), cl 16 (by omega), e4, a5, gb_let_s, ← hq5]
    rw [show (48 : Int32) = Int32.ofNat 48 from rfl, ck 48 (by omega), cl 48 (by omega), e5, a4, gb_let_s, ← hq6]
    rw [e6, show g.1 79 5 = bTe β 0 from t0, gb_let_s, ← hq7, e7, show g.1 79 7 = bTe β 2 from t2, gb_let_s, ← hq8]
    have h34 : q8.1 77 34 = Int32.ofNat (120 + 900 * f) := by rw [(F8 77 34 (by omega)).1, hr, pi_e]
    have h20' : q8.1 77 20 = 0 := by rw [(F8 77 20 (by omega)).1, hr, pi_n (by omega)]; exact h20
    refine la_m (w := ms_w β i) (a := 120 + 900 * f) (by omega) hl (ok_w hw hi) hkd hmv (bL β)[f].length 0 gb_N q8 (by omega) (by have := hl.1; unfold gb_N; omega) (fun k _ => e8 _) h34 h20' fun j hj => ?_
    have hj' : j = 0 ∨ j = 1 ∨ j = 2 ∨ j = 3 ∨ j = 4 ∨ j = 5 ∨ j = 6 ∨ j = 7 ∨ j = 8 := by omega
    rcases hj' with rfl | rfl | rfl | rfl | rfl | rfl | rfl | rfl | rfl
    · rw [hq8, pj_n (by omega), hq7, pj_n (by omega), hq6, pj_n (by omega), hq5, pj_n (by omega), hq4, pj_n (by omega), hq3, pj_n (by omega), hq2, pj_n (by omega), hq1, pj_n (by omega), hq0, pj_e]; rfl
    · rw [hq8, pj_n (by omega), hq7, pj_n (by omega), hq6, pj_n (by omega), hq5, pj_n (by omega), hq4, pj_n (by omega), hq3, pj_n (by omega), hq2, pj_n (by omega), hq1, pj_e]; rfl
    · rw [hq8, pj_n (by omega), hq7, pj_n (by omega), hq6, pj_n (by omega), hq5, pj_n (by omega), hq4, pj_n (by omega), hq3, pj_n (by omega), hq2, pj_e]; rfl
    · rw [hq8, pj_n (by omega), hq7, pj_n (by omega), hq6, pj_n (by omega), hq5, pj_n (by omega), hq4, pj_n (by omega), hq3, pj_e]; rfl
    · rw [hq8, pj_n (by omega), hq7, pj_n (by omega), hq6, pj_n (by omega), hq5, pj_n (by omega), hq4, pj_e]; rfl
    · rw [hq8, pj_n (by omega), hq7, pj_n (by omega), hq6, pj_n (by omega), hq5, pj_e]; rfl
    · rw [hq8, pj_n (by omega), hq7, pj_n (by omega), hq6, pj_e]; rfl
    · rw [hq8, pj_n (by omega), hq7, pj_e]; rfl
    · rw [hq8, pj_e]; rfl
theorem wi_e {sh : List gb_Sh} {g : gb_G} {v a b : Int32} (hab : a.toInt ≤ b.toInt) : f_X11_within sh g v.toInt64 a b = some (g, ms_near v a b) := by
  unfold f_X11_within ms_near
  by_cases c1 : 0 ≤ lg_cmp v.toInt64 a.toInt64
  · rw [if_pos c1]
    rw [lg_cmp_ge, Int64.le_iff_toInt_le, j_of, j_of] at c1
    by_cases c2 : lg_cmp v.toInt64 b.toInt64 ≤ 0
    · rw [if_pos c2, Int32.toInt32_toInt64]
      rw [lg_cmp_le, Int64.le_iff_toInt_le, j_of, j_of] at c2
      exact congrArg (fun z => some (g, z)) (near_id (lo := a.toInt) (hi := b.toInt) ⟨c1, c2⟩ rfl rfl).symm
    · rw [if_neg c2]
      rw [lg_cmp_le, Int64.le_iff_toInt_le, j_of, j_of] at c2
      have e : ¬ v < b := by rw [Int32.lt_iff_toInt_lt]; omega
      rw [if_neg e]
      by_cases c3 : a < b
      · rw [if_pos c3]
      · rw [if_neg c3]
        rw [Int32.lt_iff_toInt_lt] at c3
        exact congrArg (fun z => some (g, z)) (Int32.toInt_inj.1 (by omega))
  · rw [if_neg c1]
    rw [lg_cmp_ge, Int64.le_iff_toInt_le, j_of, j_of] at c1
    by_cases e : v < b
    · rw [if_pos e, if_neg]
      rw [Int32.lt_iff_toInt_lt]; omega
    · rw [Int32.lt_iff_toInt_lt] at e; omega
section TM
variable {sh : List gb_Sh} {g : gb_G} {β : ms_B} {i : Nat}
theorem mov_m (hw : wfB β) (hm : mvB (g.1 79) β) (h20 : g.1 77 20 = 0) (hi : i < bN β) : gb_T (f_X11_movesOf sh g (Int32.ofNat i)) (fun o => o.2 = ms_as β (ms_tl β (ms_lw β (bF β)) i 0) i 0) := by
  unfold f_X11_movesOf
  obtain ⟨o, e, v⟩ := tells_m (sh := sh) (x3 := 0) (kd := 0) hw hm h20 hi (by omega)
  refine gb_T.bs e ?_
  rw [v]
  cases ms_tl β (ms_lw β (bF β)) i 0 with
  | none =>
    simp only []
    rw [as0_n, show (0 : Int64) = (0 : Int32).toInt64 from rfl, wi_e (by decide), gb_bd_s]
    exact gb_T.sm (by show ms_near 0 (-9) 9 = 0; decide)
  | some u =>
    simp only []
    rw [as0_s, wi_e (by decide), gb_bd_s]
    exact gb_T.sm rfl
theorem cnt_m (hw : wfB β) (hm : mvB (g.1 79) β) (h20 : g.1 77 20 = 0) (hi : i < bN β) : gb_T (f_X11_countsOf sh g (Int32.ofNat i)) (fun o => o.2 = ms_as β (ms_tl β (ms_lw β (bF β)) i 1) i 1) := by
  have hn := hw.1
  obtain ⟨a0, a1, a2, a3, a4, a5, a6⟩ := hm.2.1 i hi
  have hT := (hw.2.2.2.2.2.2.1 i hi).2.2.1
  have ck : ∀ (k : Nat), k ≤ 56 → ∀ {α : Type} {y : Option α}, gb_ck (Int32.ofNat k + Int32.ofNat i) 5520 y = y := fun k hk α y => by rw [o_add]; exact gb_ck_s (o_in (by omega) (by omega))
  have cl : ∀ (k : Nat), k ≤ 56 → (Int32.ofNat k + Int32.ofNat i).toNatClampNeg = k + i := fun k hk => by rw [o_add]; exact o_cl (by omega)
  have z : ¬ (bT β i 5 = 1 ∧ bT β i 6 = -1) → gb_T (f_X11_countsOf_31 sh g (Int32.ofNat i) 0) (fun o => o.2 = ms_as β (ms_tl β (ms_lw β (bF β)) i 1) i 1) := by
    intro hq
    unfold f_X11_countsOf_31
    obtain ⟨o, e, v⟩ := tells_m (sh := sh) (x3 := (bT β i 2).toInt64) (kd := 1) hw hm h20 hi (by omega)
    rw [if_pos rfl, show (24 : Int32) = Int32.ofNat 24 from rfl, ck 24 (by omega), cl 24 (by omega), a2]
    refine gb_T.bs e ?_
    rw [v]
    cases ms_tl β (ms_lw β (bF β)) i 1 with
    | none =>
      simp only []
      rw [as1_n hq, wi_e (by decide), gb_bd_s]
      exact gb_T.sm (near_id hT rfl rfl)
    | some u =>
      simp only []
      rw [as1_s hq, wi_e (by decide), gb_bd_s]
      exact gb_T.sm rfl
  unfold f_X11_countsOf
  rw [show (16 : Int32) = Int32.ofNat 16 from rfl, ck 16 (by omega), cl 16 (by omega), a5, show (56 : Int32) = Int32.ofNat 56 from rfl, ck 56 (by omega), cl 56 (by omega), a6]
  by_cases e1 : bT β i 5 = 1
  · rw [if_pos e1]
    by_cases e2 : bT β i 6 = -1
    · rw [if_pos e2]
      unfold f_X11_countsOf_31
      rw [if_neg (by decide), as1_o ⟨e1, e2⟩]
      exact gb_T.sm rfl
    · rw [if_neg e2]
      exact z fun q => e2 q.2
  · rw [if_neg e1]
    exact z fun q => e1 q.1
theorem gl_m (hw : wfB β) (hm : mvB (g.1 79) β) (h20 : g.1 77 20 = 0) (hi : i < bN β) : gb_T (f_X11_gladsOf sh g (Int32.ofNat i)) (fun o => o.2 = ms_as β (ms_tl β (ms_lw β (bF β)) i 2) i 2) := by
  have hn := hw.1
  obtain ⟨a0, a1, a2, a3, a4, a5, a6⟩ := hm.2.1 i hi
  have hT := (hw.2.2.2.2.2.2.1 i hi).2.2.2.1
  unfold f_X11_gladsOf
  obtain ⟨o, e, v⟩ := tells_m (sh := sh) (x3 := (bT β i 3).toInt64) (kd := 2) hw hm h20 hi (by omega)
  rw [show (40 : Int32) = Int32.ofNat 40 from rfl, o_add, gb_ck_s (o_in (by omega) (by omega)), o_cl (by omega), a3]
  refine gb_T.bs e ?_
  rw [v]
  cases ms_tl β (ms_lw β (bF β)) i 2 with
  | none =>
    simp only []
    rw [as2_n, wi_e (by decide), gb_bd_s]
    exact gb_T.sm (near_id hT rfl rfl)
  | some u =>
    simp only []
    rw [as2_s, wi_e (by decide), gb_bd_s]
    exact gb_T.sm rfl
theorem lw_wf {F : Int32} (hw : wfB β) : ∀ lw, ms_lw β F = some lw → wfL lw := by
  intro lw h
  unfold ms_lw at h
  split at h
  · cases h
  · exact hw.2.2.2.2.1 lw (List.mem_of_getElem? h)
theorem la_3 {w : Nat → Int32} {lw : ms_L} (hl : ∀ q ∈ lw, wfQ q) : ∀ n v, ms_la w 3 lw n = some v → v = 1 := by
  intro n
  induction n with
  | zero => intro v h; cases h
  | succ n ih =>
    intro v h
    rw [ms_la] at h
    split at h
    · exact ih v h
    · rename_i q e
      split at h
      · rename_i e3
        cases e2 : ms_ho q w with
        | none => rw [e2] at h; exact ih v h
        | some u =>
          rw [e2] at h
          have : u = v := Option.some.inj h
          subst this
          unfold ms_ho at e2
          split at e2
          · rw [(hl q (List.mem_of_getElem? e)).2.1 e3 w] at e2
            exact (Option.some.inj e2).symm
          · cases e2
      · exact ih v h
theorem ba_m (hw : wfB β) (hm : mvB (g.1 79) β) (h20 : g.1 77 20 = 0) (hi : i < bN β) : gb_T (f_X11_isBarred sh g (Int32.ofNat i)) (fun o => o.2 = ms_as β (ms_tl β (ms_lw β (bF β)) i 3) i 3) := by
  unfold f_X11_isBarred
  obtain ⟨o, e, v⟩ := tells_m (sh := sh) (x3 := 0) (kd := 3) hw hm h20 hi (by omega)
  refine gb_T.bs e ?_
  rw [v]
  cases hL : ms_tl β (ms_lw β (bF β)) i 3 with
  | none =>
    simp only []
    rw [as3_n, if_neg (by decide)]
    exact gb_T.sm rfl
  | some u =>
    have hu : u = 1 := by
      cases hl : ms_lw β (bF β) with
      | none => rw [hl] at hL; cases hL
      | some lw => rw [hl] at hL; exact la_3 (lw_wf hw lw hl).2 _ u hL
    subst hu
    simp only []
    rw [as3_s, if_pos (by decide)]
    exact gb_T.sm rfl
end TM
theorem p_asks : ps_asks gb_I := by
  intro sh g x1 x2 hI
  have h20 := hI.2.1.2
  obtain ⟨β, ⟨hw, hc, hm⟩, -⟩ := hI.2.2.2.2.2.2.2.2
  have hB : iB sh g β := ⟨hw, hc, hm⟩
  have hn := hw.1
  by_cases h1 : im 0 ((bN β : Int) - 1) x1
  · obtain ⟨i, hi, rfl⟩ := o_of h1
    by_cases h2 : im 0 3 x2
    · obtain ⟨kd, hkd, rfl⟩ := o_of (n := 4) h2
      refine ro_b (f2 := fun g1 => f_X11_asks sh g1 _ _) (ms_as β (ms_tl β (ms_lw β (bF β)) i kd) i kd) hI ?_ (fun o => w_X10_asks) (fun c k q => by unfold scr; omega) ?_ (fun g1 o => w_X11_asks) (fun c k q => by unfold scr; omega)
      · unfold f_X10_asks
        obtain ⟨q2, e2, hL⟩ := lif_c hw hc
        rw [has_t hn hc.1 h1, bt, within_t h2 rfl rfl, bt]
        refine gb_T.bs e2 ?_
        obtain ⟨o, e, v⟩ := tell_c (sh := sh) (kd := kd) (by omega) hw hc hi (by omega) hL
        refine gb_T.bs e ?_
        exact gb_T.sm v
      · intro g1 F1
        obtain ⟨-, -, hm1⟩ := iB_s hB F1
        have h20' : (gb_pi g1 77 0 0).1 77 20 = 0 := by
          rw [pi_n (by omega), (F1 77 20 (fun s => by unfold scr at s; omega)).1]; exact h20
        show gb_T (f_X11_asks sh g1 _ _) _
        unfold f_X11_asks
        rw [gb_let_s, isGood_t (g := gb_pi g1 77 0 0) (n := bN β) hn hm1.1 h1, bt]
        have hkd' : kd = 0 ∨ kd = 1 ∨ kd = 2 ∨ kd = 3 := by omega
        rcases hkd' with rfl | rfl | rfl | rfl
        · rw [if_pos (by decide)]
          obtain ⟨o, e, v⟩ := mov_m (sh := sh) (g := gb_pi g1 77 0 0) hw hm1 h20' hi
          exact gb_T.bs e (gb_T.sm v)
        · rw [if_neg (by decide), if_pos (by decide)]
          obtain ⟨o, e, v⟩ := cnt_m (sh := sh) (g := gb_pi g1 77 0 0) hw hm1 h20' hi
          exact gb_T.bs e (gb_T.sm v)
        · rw [if_neg (by decide), if_neg (by decide), if_pos (by decide)]
          obtain ⟨o, e, v⟩ := gl_m (sh := sh) (g := gb_pi g1 77 0 0) hw hm1 h20' hi
          exact gb_T.bs e (gb_T.sm v)
        · rw [if_neg (by decide), if_neg (by decide), if_neg (by decide), if_pos (by decide)]
          obtain ⟨o, e, v⟩ := ba_m (sh := sh) (g := gb_pi g1 77 0 0) hw hm1 h20' hi
          refine gb_T.bs e ?_
          rw [v]
          have hz : ms_as β (ms_tl β (ms_lw β (bF β)) i 3) i 3 = 0 ∨ ms_as β (ms_tl β (ms_lw β (bF β)) i 3) i 3 = 1 := by
            cases ms_tl β (ms_lw β (bF β)) i 3 with
            | none => exact Or.inl rfl
            | some u => exact Or.inr rfl
          rcases hz with hz | hz
          · rw [if_pos hz]; exact gb_T.sm hz.symm
          · rw [if_neg (by rw [hz]; decide)]; exact gb_T.sm hz.symm
    · refine ⟨(g, -100000), (gb_pi g 77 0 0, -100000), ?_, ?_, rfl, I770 hI⟩
      · unfold f_X10_asks
        rw [has_t hn hc.1 h1, bt, within_f h2 rfl rfl, bf]; rfl
      · show f_X11_asks sh g _ _ = _
        unfold f_X11_asks
        rw [gb_let_s, isGood_t (g := gb_pi g 77 0 0) (n := bN β) hn hm.1 h1, bt]
        have hx : ∀ j : Nat, j < 4 → ¬ x2 = Int32.ofNat j := fun j hj q => h2 (by rw [q]; exact o_im 4 hj (by omega))
        rw [if_neg (show ¬ x2 = 0 from hx 0 (by omega)), if_neg (show ¬ x2 = 1 from hx 1 (by omega)), if_neg (show ¬ x2 = 2 from hx 2 (by omega)), if_neg (show ¬ x2 = 3 from hx 3 (by omega))]
  · refine ⟨(g, -100000), (gb_pi g 77 0 0, -100000), ?_, ?_, rfl, I770 hI⟩
    · unfold f_X10_asks
      rw [has_f hn hc.1 h1, bf]; rfl
    · show f_X11_asks sh g _ _ = _
      unfold f_X11_asks
      rw [gb_let_s, isGood_f (g := gb_pi g 77 0 0) (n := bN β) hn hm.1 h1, bf]
