/-! ===== the reference's reader: its pile ===== -/
/-- code: how long, what -/
abbrev Cd : Type := Nat × (Nat → Int32) × (Nat → Int32)
/-- the pile, its top first: what, where -/
abbrev Pl : Type := List (Nat × Nat)
def bnd (op : Nat) : Nat := if op < 31 then (if op = 30 then 1 else if op = 29 then 2 else if op = 28 then 3 else if op < 25 then (if op < 22 then 5 else 6) else 4) else 0
def stl (lv : Nat) : Pl → Cd → Pl × Cd
  | [], s => ([], s)
  | q :: r, s => if bnd q.1 < lv then (q :: r, s) else if q.1 = 29 ∨ q.1 = 30 then stl lv r (s.1, s.2.1, upd s.2.2 q.2 (Int32.ofNat s.1)) else stl lv r (s.1 + 1, upd s.2.1 s.1 (Int32.ofNat q.1), upd s.2.2 s.1 0)
theorem stl_2 {lv lv' : Nat} (h : lv' ≤ lv) : ∀ (P : Pl) (s : Cd), stl lv' P s = stl lv' (stl lv P s).1 (stl lv P s).2 := by
  intro P
  induction P with
  | nil => intro s; rfl
  | cons q r ih =>
    intro s
    rw [show stl lv (q :: r) s = if bnd q.1 < lv then (q :: r, s) else if q.1 = 29 ∨ q.1 = 30 then stl lv r (s.1, s.2.1, upd s.2.2 q.2 (Int32.ofNat s.1)) else stl lv r (s.1 + 1, upd s.2.1 s.1 (Int32.ofNat q.1), upd s.2.2 s.1 0) from rfl]
    by_cases z : bnd q.1 < lv
    · rw [if_pos z]
    · rw [if_neg z, show stl lv' (q :: r) s = if bnd q.1 < lv' then (q :: r, s) else if q.1 = 29 ∨ q.1 = 30 then stl lv' r (s.1, s.2.1, upd s.2.2 q.2 (Int32.ofNat s.1)) else stl lv' r (s.1 + 1, upd s.2.1 s.1 (Int32.ofNat q.1), upd s.2.2 s.1 0) from rfl, if_neg (by omega)]
      by_cases y : q.1 = 29 ∨ q.1 = 30
      · rw [if_pos y, if_pos y]; exact ih _
      · rw [if_neg y, if_neg y]; exact ih _
/-- the pile has it no tighter than that -/
def top (P : Pl) : Nat := match P with
  | [] => 0
  | q :: _ => bnd q.1
theorem stl_n {lv : Nat} {P : Pl} {s : Cd} (h : top P < lv) : stl lv P s = (P, s) := by
  cases P with
  | nil => rfl
  | cons q r => exact if_pos h
/-- the heap has this pile -/
def PS (g : gb_G) : Pl → Prop
  | [] => True
  | q :: r => g.1 90 r.length = Int32.ofNat q.1 ∧ g.1 91 r.length = Int32.ofNat q.2 ∧ PS g r
theorem PS_fr {g g' : gb_G} : ∀ {P : Pl}, PS g P → (∀ k, k < P.length → g'.1 90 k = g.1 90 k ∧ g'.1 91 k = g.1 91 k) → PS g' P := by
  intro P
  induction P with
  | nil => intro _ _; trivial
  | cons q r ih =>
    intro h e
    obtain ⟨h1, h2, h3⟩ := h
    have e0 := e r.length (by rw [List.length_cons]; omega)
    exact ⟨e0.1.trans h1, e0.2.trans h2, ih h3 fun k hk => e k (by rw [List.length_cons]; omega)⟩
/-- what is on the pile can be settled -/
def okP (P : Pl) : Prop := ∀ q ∈ P, q.1 ≤ 32 ∧ q.2 < 400
def cdE (g : gb_G) (s : Cd) : Prop := g.1 77 23 = Int32.ofNat s.1 ∧ g.1 88 = s.2.1 ∧ g.1 89 = s.2.2
def plE (g : gb_G) (P : Pl) : Prop := g.1 77 29 = Int32.ofNat P.length ∧ PS g P
theorem fn_n {g : gb_G} {c k c' : Nat} {x : Int32} (h : ¬ c' = c) : (gb_pi g c k x).1 c' = g.1 c' := funext fun j => pi_n (by omega)
theorem fn_e {g : gb_G} {c k : Nat} {x : Int32} : (gb_pi g c k x).1 c = upd (g.1 c) k x := by
  funext j
  by_cases h : j = k
  · subst h; rw [pi_e]; simp [upd]
  · rw [pi_n (by omega)]; simp [upd, h]
theorem emit_m {sh : List gb_Sh} {g : gb_G} {s : Cd} {x y : Int32} (h : cdE g s) (hs : s.1 < 400) : gb_T (f_X11_emit sh g x y) (fun o => cdE o (s.1 + 1, upd s.2.1 s.1 x, upd s.2.2 s.1 y)) := by
  obtain ⟨h1, h2, h3⟩ := h
  unfold f_X11_emit
  rw [h1, gb_ck_s (o_in hs (by omega)), o_cl (by omega), gb_let_s, show (gb_pi g 88 s.1 x).1 77 23 = Int32.ofNat s.1 from (pi_n (by omega)).trans h1, gb_ck_s (o_in hs (by omega)), o_cl (by omega), gb_let_s, gb_let_s, show (gb_pi (gb_pi g 88 s.1 x) 89 s.1 y).1 77 23 = Int32.ofNat s.1 from (pi_n (by omega)).trans ((pi_n (by omega)).trans h1), o_succ]
  refine ⟨_, rfl, pi_e, ?_, ?_⟩
  · rw [fn_n (by omega), fn_n (by omega), fn_e, h2]
  · rw [fn_n (by omega), fn_e, fn_n (by omega), h3]
theorem push_m {sh : List gb_Sh} {g : gb_G} {P : Pl} {op at' : Nat} (h : plE g P) (hs : P.length < 400) : gb_T (f_X11_push sh g (Int32.ofNat op) (Int32.ofNat at')) (fun o => plE o ((op, at') :: P)) := by
  obtain ⟨h1, h2⟩ := h
  unfold f_X11_push
  rw [h1, gb_ck_s (o_in hs (by omega)), o_cl (by omega), gb_let_s, show (gb_pi g 90 P.length (Int32.ofNat op)).1 77 29 = Int32.ofNat P.length from (pi_n (by omega)).trans h1, gb_ck_s (o_in hs (by omega)), o_cl (by omega), gb_let_s, gb_let_s, show (gb_pi (gb_pi g 90 P.length (Int32.ofNat op)) 91 P.length (Int32.ofNat at')).1 77 29 = Int32.ofNat P.length from (pi_n (by omega)).trans ((pi_n (by omega)).trans h1), o_succ]
  refine ⟨_, rfl, pi_e, ?_, ?_, ?_⟩
  · rw [pi_n (by omega), pi_n (by omega)]; exact pi_e
  · rw [pi_n (by omega)]; exact pi_e
  · refine PS_fr h2 fun k hk => ⟨?_, ?_⟩
    · rw [pi_n (by omega), pi_n (by omega), pi_n (by omega)]
    · rw [pi_n (by omega), pi_n (by omega), pi_n (by omega)]
theorem bnd_m {sh : List gb_Sh} {g : gb_G} {op : Nat} (h : op ≤ 32) : f_X11_binds sh g (Int32.ofNat op) = some (g, Int32.ofNat (bnd op)) := by
  have key : ∀ k : Fin 33, f_X11_binds sh g (Int32.ofNat k.val) = some (g, Int32.ofNat (bnd k.val)) := by
    intro k
    unfold f_X11_binds bnd
    have a1 : (Int32.ofNat k.val < 31) = (k.val < 31) := by rw [show (31 : Int32) = Int32.ofNat 31 from rfl, o_lt (by omega) (by omega)]
    have a2 : (Int32.ofNat k.val = 30) = (k.val = 30) := propext ⟨fun z => o_inj (j := 30) (by omega) (by omega) z, fun z => by rw [z]; rfl⟩
    have a3 : (Int32.ofNat k.val = 29) = (k.val = 29) := propext ⟨fun z => o_inj (j := 29) (by omega) (by omega) z, fun z => by rw [z]; rfl⟩
    have a4 : (Int32.ofNat k.val = 28) = (k.val = 28) := propext ⟨fun z => o_inj (j := 28) (by omega) (by omega) z, fun z => by rw [z]; rfl⟩
    have a5 : (Int32.ofNat k.val < 25) = (k.val < 25) := by rw [show (25 : Int32) = Int32.ofNat 25 from rfl, o_lt (by omega) (by omega)]
    have a6 : (Int32.ofNat k.val < 22) = (k.val < 22) := by rw [show (22 : Int32) = Int32.ofNat 22 from rfl, o_lt (by omega) (by omega)]
    simp only [a1, a2, a3, a4, a5, a6]
    by_cases b1 : k.val < 31
    · rw [if_pos b1, if_pos b1]
      by_cases b2 : k.val = 30
      · rw [if_pos b2, if_pos b2]; rfl
      · rw [if_neg b2, if_neg b2]
        by_cases b3 : k.val = 29
        · rw [if_pos b3, if_pos b3]; rfl
        · rw [if_neg b3, if_neg b3]
          by_cases b4 : k.val = 28
          · rw [if_pos b4, if_pos b4]; rfl
          · rw [if_neg b4, if_neg b4]
            by_cases b5 : k.val < 25
            · rw [if_pos b5, if_pos b5]
              by_cases b6 : k.val < 22
              · rw [if_pos b6, if_pos b6]; rfl
              · rw [if_neg b6, if_neg b6]; rfl
            · rw [if_neg b5, if_neg b5]; rfl
    · rw [if_neg b1, if_neg b1]; rfl
  exact key ⟨op, by omega⟩
theorem bnd_6 (op : Nat) : bnd op ≤ 6 := by
  unfold bnd
  repeat' split
  all_goals omega
theorem set0_m {sh : List gb_Sh} {lv : Nat} (hlv : lv ≤ 10) : ∀ (P : Pl) (g : gb_G) (s : Cd) (F : Nat), plE g P → cdE g s → okP P → s.1 + P.length ≤ 400 → gb_T (f_X11_settle_0 sh (F + P.length + 1) g (Int32.ofNat lv)) (fun o => plE o (stl lv P s).1 ∧ cdE o (stl lv P s).2) := by
  intro P
  induction P with
  | nil =>
    intro g s F h1 h2 h3 h4
    rw [f_X11_settle_0, h1.1, if_pos (by decide)]
    exact ⟨g, rfl, h1, h2⟩
  | cons q r ih =>
    intro g s F h1 h2 h3 h4
    obtain ⟨⟨p1, p2⟩, hq⟩ := show (q.1 ≤ 32 ∧ q.2 < 400) ∧ okP r from ⟨h3 q (List.mem_cons_self ..), fun v hv => h3 v (List.mem_cons_of_mem _ hv)⟩
    obtain ⟨l1, l2, l3, l4⟩ := h1
    rw [List.length_cons] at l1 h4
    have b6 := bnd_6 q.1
    rw [List.length_cons, show F + (r.length + 1) + 1 = (F + r.length + 1) + 1 by omega, f_X11_settle_0, l1, if_neg (by rw [show (0 : Int32) = Int32.ofNat 0 from rfl, o_le (by omega) (by omega)]; omega), o_pred, gb_ck_s (o_in (by omega) (by omega)), o_cl (by omega), l2, bnd_m p1, gb_bd_s, show stl lv (q :: r) s = if bnd q.1 < lv then (q :: r, s) else if q.1 = 29 ∨ q.1 = 30 then stl lv r (s.1, s.2.1, upd s.2.2 q.2 (Int32.ofNat s.1)) else stl lv r (s.1 + 1, upd s.2.1 s.1 (Int32.ofNat q.1), upd s.2.2 s.1 0) from rfl]
    simp only []
    by_cases z : bnd q.1 < lv
    · rw [if_pos (by rw [o_lt (by omega) (by omega)]; exact z), if_pos z]
      exact ⟨g, rfl, ⟨by rw [List.length_cons]; exact l1, l2, l3, l4⟩, h2⟩
    · rw [if_neg (by rw [o_lt (by omega) (by omega)]; exact z), if_neg z, l1, o_pred, gb_let_s]
      have e0 : ∀ c k, ¬ (c = 77 ∧ k = 29) → (gb_pi g 77 29 (Int32.ofNat r.length)).1 c k = g.1 c k := fun c k h => pi_n h
      have e1 : (gb_pi g 77 29 (Int32.ofNat r.length)).1 77 29 = Int32.ofNat r.length := pi_e
      rw [e1, gb_ck_s (o_in (by omega) (by omega)), o_cl (by omega), e0 90 r.length (by omega), l2]
      have P1 : plE (gb_pi g 77 29 (Int32.ofNat r.length)) r := ⟨pi_e, PS_fr l4 fun k hk => ⟨e0 _ _ (by omega), e0 _ _ (by omega)⟩⟩
      have C1 : cdE (gb_pi g 77 29 (Int32.ofNat r.length)) s := ⟨(e0 _ _ (by omega)).trans h2.1, by rw [fn_n (by omega)]; exact h2.2.1, by rw [fn_n (by omega)]; exact h2.2.2⟩
      have k63 : gb_T (f_X11_settle_63 sh (fun w w0 => f_X11_settle_0 sh (F + r.length + 1) w w0) (gb_pi g 77 29 (Int32.ofNat r.length)) (Int32.ofNat lv)) (fun o => plE o (stl lv r (s.1, s.2.1, upd s.2.2 q.2 (Int32.ofNat s.1))).1 ∧ cdE o (stl lv r (s.1, s.2.1, upd s.2.2 q.2 (Int32.ofNat s.1))).2) := by
        unfold f_X11_settle_63
        rw [e1, gb_ck_s (o_in (by omega) (by omega)), o_cl (by omega), e0 91 r.length (by omega), l3, gb_ck_s (o_in p2 (by omega)), o_cl (by omega), gb_let_s, C1.1]
        refine ih (gb_pi (gb_pi g 77 29 (Int32.ofNat r.length)) 89 q.2 (Int32.ofNat s.1)) (s.1, s.2.1, upd s.2.2 q.2 (Int32.ofNat s.1)) F ⟨(pi_n (by omega)).trans P1.1, PS_fr P1.2 fun k hk => ⟨pi_n (by omega), pi_n (by omega)⟩⟩ ⟨(pi_n (by omega)).trans C1.1, ?_, ?_⟩ hq (by show s.1 + r.length ≤ 400; omega)
        · rw [fn_n (by omega)]; exact C1.2.1
        · rw [fn_e, C1.2.2]
      by_cases y : q.1 = 29 ∨ q.1 = 30
      · rw [if_pos y]
        rcases y with y | y
        · rw [if_pos (show Int32.ofNat q.1 = 29 by rw [y]; rfl)]; exact k63
        · rw [if_neg (show ¬ Int32.ofNat q.1 = 29 by rw [y]; decide), gb_ck_s (o_in (by omega) (by omega)), if_pos (show Int32.ofNat q.1 = 30 by rw [y]; rfl)]; exact k63
      · rw [if_neg y, if_neg (show ¬ Int32.ofNat q.1 = 29 from fun z => y (Or.inl (o_inj (j := 29) (by omega) (by omega) z))), gb_ck_s (o_in (by omega) (by omega)), if_neg (show ¬ Int32.ofNat q.1 = 30 from fun z => y (Or.inr (o_inj (j := 30) (by omega) (by omega) z))), gb_ck_s (o_in (by omega) (by omega))]
        obtain ⟨o, e, C2⟩ := emit_m (sh := sh) (x := Int32.ofNat q.1) (y := 0) C1 (by omega)
        have Fm := w_X11_emit e
        rw [e, gb_bd_s]
        exact ih o _ F ⟨(Fm 77 29 (by omega)).1.trans P1.1, PS_fr P1.2 fun k hk => ⟨(Fm 90 k (by omega)).1, (Fm 91 k (by omega)).1⟩⟩ C2 hq (by show s.1 + 1 + r.length ≤ 400; omega)
/-- settle() -/
theorem set_m {sh : List gb_Sh} {lv : Nat} {P : Pl} {g : gb_G} {s : Cd} (hlv : lv ≤ 10) (h1 : plE g P) (h2 : cdE g s) (h3 : okP P) (h4 : s.1 + P.length ≤ 400) : gb_T (f_X11_settle sh g (Int32.ofNat lv)) (fun o => plE o (stl lv P s).1 ∧ cdE o (stl lv P s).2) := by
  have k := set0_m (sh := sh) hlv P g s (1000000 - P.length) h1 h2 h3 h4
  rw [show 1000000 - P.length + P.length + 1 = gb_N + 1 by rw [show gb_N = 1000000 from rfl]; omega] at k
  exact k
