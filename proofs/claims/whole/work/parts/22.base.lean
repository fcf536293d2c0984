/-! ===== both sides' small words, over what they hold ===== -/
theorem pi_e {g : gb_G} {c j : Nat} {x : Int32} : (gb_pi g c j x).1 c j = x := by simp [gb_pi, gb_pa, upd]
theorem pi_n {g : gb_G} {c j c' k : Nat} {x : Int32} (h : ¬ (c' = c ∧ k = j)) : (gb_pi g c j x).1 c' k = g.1 c' k := by
  by_cases hc : c' = c
  · have hk : ¬ k = j := fun q => h ⟨hc, q⟩
    subst hc
    simp [gb_pi, gb_pa, upd, hk]
  · simp [gb_pi, gb_pa, hc]
theorem pj_e {g : gb_G} {c j : Nat} {x : Int64} : (gb_pj g c j x).2.1 c j = x := by simp [gb_pj, gb_pl, vp_updL]
theorem pj_n {g : gb_G} {c j c' k : Nat} {x : Int64} (h : ¬ (c' = c ∧ k = j)) : (gb_pj g c j x).2.1 c' k = g.2.1 c' k := by
  by_cases hc : c' = c
  · have hk : ¬ k = j := fun q => h ⟨hc, q⟩
    subst hc
    simp [gb_pj, gb_pl, vp_updL, hk]
  · simp [gb_pj, gb_pl, hc]
theorem fr_eqc {W : Nat → Nat → Prop} {g g' : gb_G} (F : gb_Fr W g g') {c k : Nat} (h : ¬ W c k) : eqc g g' c k := F c k h
theorem bt {α : Type} {g : gb_G} {A B : gb_G × Int32 → Option α} : gb_bd (some (g, (1 : Int32))) (fun r => if r.2 = 0 then A r else B r) = B (g, 1) := by
  rw [gb_bd_s]; exact if_neg (show ¬ (1 : Int32) = 0 by decide)
theorem bf {α : Type} {g : gb_G} {A B : gb_G × Int32 → Option α} : gb_bd (some (g, (0 : Int32))) (fun r => if r.2 = 0 then A r else B r) = A (g, 0) := by
  rw [gb_bd_s]; exact if_pos rfl
theorem nx {α : Type} {l : List α} {k : Nat} {x : α} (h : l[k]? = some x) : k < l.length := by
  by_cases hc : k < l.length
  · exact hc
  · rw [List.getElem?_eq_none (by omega)] at h; cases h
theorem rd_f {sh : List gb_Sh} {g : gb_G} {b : Nat} {β : ms_B} {x y : Int32} (hw : wfB β) (h0 : g.1 b 0 = Int32.ofNat (bN β)) (hx : ¬ im 0 ((bN β : Int) - 1) x) : f_X0_read sh g b x y = some (g, -1) := by
  have hn := hw.1
  unfold f_X0_read
  by_cases h1 : x < 0
  · rw [if_pos h1]; rfl
  · rw [if_neg h1, if_pos]
    · rfl
    · rw [h0, Int32.le_iff_toInt_le, o_int (by omega)]
      rw [Int32.lt_iff_toInt_lt, Int32.toInt_zero] at h1
      rw [im] at hx
      omega
theorem rd_g {sh : List gb_Sh} {g : gb_G} {b : Nat} {x y : Int32} (hy : ¬ im 0 6 y) : f_X0_read sh g b x y = some (g, -1) := by
  unfold f_X0_read
  by_cases h1 : x < 0
  · rw [if_pos h1]; rfl
  · rw [if_neg h1]
    by_cases h2 : g.1 b 0 ≤ x
    · rw [if_pos h2]; rfl
    · rw [if_neg h2]
      by_cases h3 : y < 0
      · rw [if_pos h3]; rfl
      · rw [if_neg h3, if_pos]
        · rfl
        · rw [Int32.le_iff_toInt_le, show (7 : Int32).toInt = 7 from rfl]
          rw [Int32.lt_iff_toInt_lt, Int32.toInt_zero] at h3
          rw [im] at hy
          omega
theorem x7 (i j : Nat) : Int32.ofNat i * 7 + Int32.ofNat j = Int32.ofNat (7 * i + j) := by
  rw [show (7 : Int32) = Int32.ofNat 7 from rfl, o_mul, o_add, Nat.mul_comm]
theorem x8 (i j : Nat) : Int32.ofNat i * 8 + Int32.ofNat j = Int32.ofNat (8 * i + j) := by
  rw [show (8 : Int32) = Int32.ofNat 8 from rfl, o_mul, o_add, Nat.mul_comm]
theorem rd_t {sh : List gb_Sh} {g : gb_G} {b : Nat} {β : ms_B} {x y : Int32} {i j : Nat} (hw : wfB β) (hc : cvB sh g b β) (hx : x = Int32.ofNat i) (hi : i < bN β) (hy : y = Int32.ofNat j) (hj : j < 7) : f_X0_read sh g b x y = some (g, bT β i j) := by
  have hn := hw.1
  subst hx hy
  unfold f_X0_read f_X0_read_27
  rw [if_neg, if_neg, if_neg, if_neg, if_neg, x7, gb_ck_s (o_in (by omega) (by omega)), o_cl (by omega), hc.2.1 i j hi hj]
  · decide
  · rw [show (7 : Int32) = Int32.ofNat 7 from rfl, o_le (by omega) (by omega)]; omega
  · rw [show (0 : Int32) = Int32.ofNat 0 from rfl, o_lt (by omega) (by omega)]; omega
  · rw [hc.1, o_le (by omega) (by omega)]; omega
  · rw [show (0 : Int32) = Int32.ofNat 0 from rfl, o_lt (by omega) (by omega)]; omega
theorem n_pred {n : Nat} (hn : n < 2147483648) : (Int32.ofNat n - 1).toInt = (n : Int) - 1 := by
  rw [i_sub, o_int hn, show (1 : Int32).toInt = 1 from rfl] <;> rw [o_int hn, show (1 : Int32).toInt = 1 from rfl] <;> omega
theorem n_predl {n : Nat} (hn : n < 2147483648) : ((Int32.ofNat n).toInt64 - 1).toInt = (n : Int) - 1 := by
  rw [j_sub, j_of, o_int hn, show (1 : Int64).toInt = 1 from rfl] <;> rw [j_of, o_int hn, show (1 : Int64).toInt = 1 from rfl] <;> omega
theorem has_t {sh : List gb_Sh} {g : gb_G} {b n : Nat} {x : Int32} (hn : n ≤ 8) (h0 : g.1 b 0 = Int32.ofNat n) (hx : im 0 ((n : Int) - 1) x) : f_X0_has sh g b x = some (g, 1) := by
  unfold f_X0_has
  rw [h0, within_t hx rfl (n_pred (by omega))]; rfl
theorem has_f {sh : List gb_Sh} {g : gb_G} {b n : Nat} {x : Int32} (hn : n ≤ 8) (h0 : g.1 b 0 = Int32.ofNat n) (hx : ¬ im 0 ((n : Int) - 1) x) : f_X0_has sh g b x = some (g, 0) := by
  unfold f_X0_has
  rw [h0, within_f hx rfl (n_pred (by omega))]; rfl
theorem wr_t {sh : List gb_Sh} {g : gb_G} {b n : Nat} {x y v : Int32} {i j : Nat} (hn : n ≤ 8) (h0 : g.1 b 0 = Int32.ofNat n) (hx : x = Int32.ofNat i) (hi : i < n) (hy : y = Int32.ofNat j) (hj : j < 7) : f_X0_write sh g b x y v = some (gb_pi g (b + 1) (7 * i + j) v) := by
  subst hx hy
  unfold f_X0_write
  rw [has_t hn h0 (o_im n hi (by omega)), bt, within_t (lo := 0) (hi := 6) (by rw [im, o_int (by omega)]; omega) rfl rfl, bt, x7, gb_ck_s (o_in (by omega) (by omega)), o_cl (by omega)]
  rfl
theorem ow_t {sh : List gb_Sh} {g : gb_G} {b : Nat} {p i : Nat} (hp : p < 5) (hi : i < 8) : f_X0_ownWeight sh g b (Int32.ofNat p) (Int32.ofNat i) = some (g, g.1 (b + 2) (8 * p + i)) := by
  unfold f_X0_ownWeight
  rw [within_t (lo := 0) (hi := 4) (by rw [im, o_int (by omega)]; omega) rfl rfl, bt, within_t (lo := 0) (hi := 7) (by rw [im, o_int (by omega)]; omega) rfl rfl, bt, x8, gb_ck_s (o_in (by omega) (by omega)), o_cl (by omega)]
theorem isGood_t {sh : List gb_Sh} {g : gb_G} {n : Nat} {x : Int32} (hn : n ≤ 8) (h0 : g.1 79 0 = Int32.ofNat n) (hx : im 0 ((n : Int) - 1) x) : f_X11_isGood sh g x = some (g, 1) := by
  unfold f_X11_isGood
  rw [h0, in_t hx rfl (n_predl (by omega))]; rfl
theorem isGood_f {sh : List gb_Sh} {g : gb_G} {n : Nat} {x : Int32} (hn : n ≤ 8) (h0 : g.1 79 0 = Int32.ofNat n) (hx : ¬ im 0 ((n : Int) - 1) x) : f_X11_isGood sh g x = some (g, 0) := by
  unfold f_X11_isGood
  rw [h0, in_f hx rfl (n_predl (by omega))]; rfl
theorem isPerson_t {sh : List gb_Sh} {g : gb_G} {n : Nat} {x : Int32} (hn : n ≤ 8) (h0 : g.1 79 1 = Int32.ofNat n) (hx : im 0 ((n : Int) - 1) x) : f_X11_isPerson sh g x = some (g, 1) := by
  unfold f_X11_isPerson
  rw [h0, in_t hx rfl (n_predl (by omega))]; rfl
theorem isPerson_f {sh : List gb_Sh} {g : gb_G} {n : Nat} {x : Int32} (hn : n ≤ 8) (h0 : g.1 79 1 = Int32.ofNat n) (hx : ¬ im 0 ((n : Int) - 1) x) : f_X11_isPerson sh g x = some (g, 0) := by
  unfold f_X11_isPerson
  rw [h0, in_f hx rfl (n_predl (by omega))]; rfl
theorem isLaw_t {sh : List gb_Sh} {g : gb_G} {n : Nat} {x : Int32} (hn : n ≤ 8) (h0 : g.1 79 3 = Int32.ofNat n) (hx : im (-1) ((n : Int) - 1) x) : f_X11_isLaw sh g x = some (g, 1) := by
  unfold f_X11_isLaw
  by_cases h : x = -1
  · rw [if_pos h]
  · have h2 : ¬ x.toInt = (-1 : Int32).toInt := fun q => h (Int32.toInt_inj.1 q)
    rw [show (-1 : Int32).toInt = -1 from rfl] at h2
    rw [if_neg h, h0, in_t (lo := 0) (hi := (n : Int) - 1) ⟨by have := hx.1; omega, hx.2⟩ rfl (n_predl (by omega))]; rfl
theorem isLaw_f {sh : List gb_Sh} {g : gb_G} {n : Nat} {x : Int32} (hn : n ≤ 8) (h0 : g.1 79 3 = Int32.ofNat n) (hx : ¬ im (-1) ((n : Int) - 1) x) : f_X11_isLaw sh g x = some (g, 0) := by
  unfold f_X11_isLaw
  rw [if_neg, h0, in_f (lo := 0) (hi := (n : Int) - 1) (fun q => hx ⟨by have := q.1; omega, q.2⟩) rfl (n_predl (by omega))]
  · rfl
  · intro q; subst q; apply hx; rw [im, show (-1 : Int32).toInt = -1 from rfl]; omega
/-! refusing, granting -/
theorem rf {sh : List gb_Sh} {g : gb_G} {v : Int32} (k : Nat) (hk : k < 7) (hv : -v = Int32.ofNat k) : f_X10_refuse sh g v = some (gb_pi (gb_pi g 0 18 v) 76 k (g.1 76 k + 1), v) := by
  unfold f_X10_refuse
  rw [gb_let_s, hv, within_t (lo := 0) (hi := 6) (by rw [im, o_int (by omega)]; omega) rfl (by decide), bt, gb_ck_s (o_in hk (by omega)), gb_ck_s (o_in hk (by omega)), o_cl (by omega), pi_n (by omega)]
  rfl
theorem gr {sh : List gb_Sh} {g : gb_G} {v : Int32} : f_X10_grant sh g v = some (gb_pi g 0 18 0, v) := rfl
theorem st_p {sh : List gb_Sh} {g : gb_G} {v : Int32} (hv : 0 ≤ v.toInt) : f_X10_settle sh g v = some (gb_pi g 0 18 0, v) := by
  unfold f_X10_settle
  rw [if_pos (by rw [Int32.le_iff_toInt_le]; exact hv)]; rfl
theorem st_n {sh : List gb_Sh} {g : gb_G} {v : Int32} (k : Nat) (hk : k < 7) (hv : -v = Int32.ofNat k) (hn : v.toInt < 0) : f_X10_settle sh g v = some (gb_pi (gb_pi g 0 18 v) 76 k (g.1 76 k + 1), v) := by
  unfold f_X10_settle
  rw [if_neg (by rw [Int32.le_iff_toInt_le, Int32.toInt_zero]; omega), rf k hk hv]; rfl
theorem te_p {sh : List gb_Sh} {g : gb_G} {v : Int32} (hv : 0 ≤ v.toInt) : f_X11_tell sh g v = some (gb_pi g 77 1 0, v) := by
  have h : 0 ≤ v := by rw [Int32.le_iff_toInt_le]; exact hv
  unfold f_X11_tell f_X11_tell_10
  rw [if_pos h, gb_let_s, if_pos h]
theorem te_n {sh : List gb_Sh} {g : gb_G} {v : Int32} (k : Nat) (hk : k < 7) (hv : -v = Int32.ofNat k) (hn : v.toInt < 0) : f_X11_tell sh g v = some (gb_pi (gb_pi g 77 1 v) 78 k (g.1 78 k + 1), v) := by
  have h : ¬ 0 ≤ v := by rw [Int32.le_iff_toInt_le, Int32.toInt_zero]; omega
  unfold f_X11_tell f_X11_tell_10
  rw [if_neg h, gb_let_s, if_neg h, hv, gb_ck_s (o_in hk (by omega)), gb_ck_s (o_in hk (by omega)), o_cl (by omega), pi_n (by omega)]
  rfl
theorem se_p {sh : List gb_Sh} {g : gb_G} {v : Int32} (hv : 0 ≤ v.toInt) : f_X11_settled sh g v = some (gb_pi (gb_pi g 77 8 0) 77 1 0, v) := by
  have h : 0 ≤ v := by rw [Int32.le_iff_toInt_le]; exact hv
  unfold f_X11_settled f_X11_settled_13
  rw [if_pos h, gb_let_s, te_p hv]; rfl
theorem pi_same {g : gb_G} {c j : Nat} : gb_pi g c j (g.1 c j) = g := by
  obtain ⟨g1, g2⟩ := g
  simp only [gb_pi, gb_pa]
  congr 1
  funext a
  by_cases h : a = c
  · subst h; simp only [if_pos]; funext k; simp only [upd]; split
    · rename_i q; rw [q]
    · rfl
  · simp only [if_neg h]
theorem se_n {sh : List gb_Sh} {g : gb_G} {v : Int32} (k : Nat) (hk : k < 7) (hv : -v = Int32.ofNat k) (hn : v.toInt < 0) : f_X11_settled sh g v = some (gb_pi (gb_pi g 77 1 v) 78 k (g.1 78 k + 1), v) := by
  have h : ¬ 0 ≤ v := by rw [Int32.le_iff_toInt_le, Int32.toInt_zero]; omega
  unfold f_X11_settled f_X11_settled_13
  rw [if_neg h, gb_let_s, pi_same, te_n k hk hv hn]; rfl
theorem cg {sh : List gb_Sh} {g : gb_G} {x v : Int32} {i : Nat} (hx : x = Int32.ofNat i) (hi : i < 5520) : f_X11_change sh g x v = some (gb_pi (gb_pi g 79 i v) 77 1 0, g.1 79 i) := by
  subst hx
  unfold f_X11_change
  rw [gb_ck_s (o_in hi (by omega)), gb_ck_s (o_in hi (by omega)), o_cl (by omega)]; rfl
/-! how many LACK -/
def ms_sum (L : Nat → Int32) : Nat → Int32
  | 0 => 0
  | n + 1 => ms_sum L n + L n
theorem ms_sum_c {L M : Nat → Int32} {n : Nat} (h : ∀ i, i < n → L i = M i) : ms_sum L n = ms_sum M n := by
  induction n with
  | zero => rfl
  | succ n ih => rw [ms_sum, ms_sum, ih (fun i hi => h i (by omega)), h n (by omega)]
theorem ms_sum_01 {L : Nat → Int32} {n : Nat} (hn : n ≤ 1000) (h : ∀ i, i < n → im 0 1 (L i)) : im 0 n (ms_sum L n) := by
  induction n with
  | zero => exact ⟨Int.le_refl _, Int.le_refl _⟩
  | succ n ih =>
    have h1 := ih (by omega) fun i hi => h i (by omega)
    have h2 := h n (by omega)
    rw [im] at *
    rw [ms_sum, i_add (by omega) (by omega)]
    omega
theorem lc_l {sh : List gb_Sh} {g : gb_G} {b : Nat} {β : ms_B} (hw : wfB β) (hc : cvB sh g b β) : ∀ m i fuel, i + m = bN β → m < fuel → f_X0_lackingCount_4 sh b fuel g (ms_sum (fun i => bT β i 5) i) (Int32.ofNat i) = some (g, ms_sum (fun i => bT β i 5) (bN β)) := by
  have hn := hw.1
  intro m
  induction m with
  | zero =>
    intro i fuel h hf
    obtain ⟨f, rfl⟩ : ∃ f, fuel = f + 1 := ⟨fuel - 1, by omega⟩
    have e : i = bN β := by omega
    subst e
    rw [f_X0_lackingCount_4, if_pos (by rw [hc.1]; exact Int32.le_refl _)]
  | succ m ih =>
    intro i fuel h hf
    obtain ⟨f, rfl⟩ : ∃ f, fuel = f + 1 := ⟨fuel - 1, by omega⟩
    rw [f_X0_lackingCount_4, if_neg (by rw [hc.1, o_le (by omega) (by omega)]; omega), rd_t (y := 5) (j := 5) hw hc rfl (by omega) rfl (by omega), gb_bd_s, o_succ]
    exact ih (i + 1) f (by omega) (by omega)
theorem lc {sh : List gb_Sh} {g : gb_G} {b : Nat} {β : ms_B} (hw : wfB β) (hc : cvB sh g b β) : f_X0_lackingCount sh g b = some (g, ms_sum (fun i => bT β i 5) (bN β)) :=
  lc_l hw hc (bN β) 0 gb_N (by omega) (by have := hw.1; unfold gb_N; omega)
theorem lo_l {sh : List gb_Sh} {g : gb_G} {β : ms_B} (hw : wfB β) (hm : mvB (g.1 79) β) : ∀ m i fuel, i + m = bN β → m < fuel → f_X11_lackingOnes_4 sh fuel g (ms_sum (fun i => bT β i 5) i) (Int32.ofNat i) = some (g, ms_sum (fun i => bT β i 5) (bN β)) := by
  have hn := hw.1
  intro m
  induction m with
  | zero =>
    intro i fuel h hf
    obtain ⟨f, rfl⟩ : ∃ f, fuel = f + 1 := ⟨fuel - 1, by omega⟩
    have e : i = bN β := by omega
    subst e
    rw [f_X11_lackingOnes_4, if_pos (by rw [hm.1]; exact Int32.le_refl _)]
  | succ m ih =>
    intro i fuel h hf
    obtain ⟨f, rfl⟩ : ∃ f, fuel = f + 1 := ⟨fuel - 1, by omega⟩
    rw [f_X11_lackingOnes_4, if_neg (by rw [hm.1, o_le (by omega) (by omega)]; omega), show (16 : Int32) = Int32.ofNat 16 from rfl, o_add, gb_ck_s (o_in (by omega) (by omega)), o_cl (by omega), (hm.2.1 i (by omega)).2.2.2.2.2.1, o_succ]
    exact ih (i + 1) f (by omega) (by omega)
theorem lo {sh : List gb_Sh} {g : gb_G} {β : ms_B} (hw : wfB β) (hm : mvB (g.1 79) β) : f_X11_lackingOnes sh g = some (g, ms_sum (fun i => bT β i 5) (bN β)) :=
  lo_l hw hm (bN β) 0 gb_N (by omega) (by have := hw.1; unfold gb_N; omega)
