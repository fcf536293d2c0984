/-! ===== which cells a function may write ===== -/
def gb_Fr (W : Nat → Nat → Prop) (g g' : gb_G) : Prop := ∀ c k, ¬ W c k → g'.1 c k = g.1 c k ∧ g'.2.1 c k = g.2.1 c k ∧ g'.2.2 c k = g.2.2 c k
theorem gb_Fr.rf {W : Nat → Nat → Prop} {g : gb_G} : gb_Fr W g g := fun _ _ _ => ⟨rfl, rfl, rfl⟩
theorem gb_Fr.tr {W : Nat → Nat → Prop} {g g1 g2 : gb_G} (a : gb_Fr W g g1) (b : gb_Fr W g1 g2) : gb_Fr W g g2 := fun c k h => ⟨(b c k h).1.trans (a c k h).1, (b c k h).2.1.trans (a c k h).2.1, (b c k h).2.2.trans (a c k h).2.2⟩
theorem gb_Fr.up {W W' : Nat → Nat → Prop} {g g1 : gb_G} (a : gb_Fr W g g1) (h : ∀ c k, W c k → W' c k) : gb_Fr W' g g1 := fun c k q => a c k (fun w => q (h c k w))
theorem gb_Fr.pa {W : Nat → Nat → Prop} {g g1 : gb_G} {c : Nat} {f : Nat → Int32} (hw : ∀ k, W c k) (e : g1 = gb_pa g c f) : gb_Fr W g g1 := by
  subst e
  intro c' k hk
  refine ⟨?_, rfl, rfl⟩
  have hc : ¬ c' = c := fun q => hk (q ▸ hw k)
  simp only [gb_pa, if_neg hc]
theorem gb_Fr.pi {W : Nat → Nat → Prop} {g g1 : gb_G} {c j : Nat} {x : Int32} (hw : W c j) (e : g1 = gb_pi g c j x) : gb_Fr W g g1 := by
  subst e
  intro c' k hk
  refine ⟨?_, rfl, rfl⟩
  by_cases hc : c' = c
  · subst hc
    have hj : ¬ k = j := fun q => hk (q ▸ hw)
    simp only [gb_pi, gb_pa, if_pos, upd, if_neg hj]
  · simp only [gb_pi, gb_pa, if_neg hc]
theorem gb_Fr.pj {W : Nat → Nat → Prop} {g g1 : gb_G} {c j : Nat} {x : Int64} (hw : W c j) (e : g1 = gb_pj g c j x) : gb_Fr W g g1 := by
  subst e
  intro c' k hk
  refine ⟨rfl, ?_, rfl⟩
  by_cases hc : c' = c
  · subst hc
    have hj : ¬ k = j := fun q => hk (q ▸ hw)
    simp only [gb_pj, gb_pl, if_pos, vp_updL, if_neg hj]
  · simp only [gb_pj, gb_pl, if_neg hc]
theorem gb_Fr.pr {W : Nat → Nat → Prop} {g g1 : gb_G} {c j : Nat} {x : Option Nat} (hw : W c j) (e : g1 = gb_pr g c j x) : gb_Fr W g g1 := by
  subst e
  intro c' k hk
  refine ⟨rfl, rfl, ?_⟩
  by_cases hc : c' = c
  · subst hc
    have hj : ¬ k = j := fun q => hk (q ▸ hw)
    simp only [gb_pr, gb_pz, if_pos, va_up, if_neg hj]
  · simp only [gb_pr, gb_pz, if_neg hc]
theorem gb_Fr.no {g g1 : gb_G} (a : gb_Fr (fun _ _ => False) g g1) : g1 = g := by
  obtain ⟨a1, a2, a3⟩ := g1
  obtain ⟨b1, b2, b3⟩ := g
  have h1 : a1 = b1 := funext fun c => funext fun k => (a c k id).1
  have h2 : a2 = b2 := funext fun c => funext fun k => (a c k id).2.1
  have h3 : a3 = b3 := funext fun c => funext fun k => (a c k id).2.2
  rw [h1, h2, h3]
theorem gb_let_x {α β : Type} {a : α} {f : α → Option β} {r : β} (h : gb_let a f = some r) : ∃ x, x = a ∧ f x = some r := ⟨a, rfl, h⟩
theorem gb_ite_e {α : Type} {c : Prop} [Decidable c] {a b r : α} (h : (if c then a else b) = r) : a = r ∨ b = r := by
  by_cases hc : c
  · rw [if_pos hc] at h; exact Or.inl h
  · rw [if_neg hc] at h; exact Or.inr h

set_option maxRecDepth 100000 in
set_option maxHeartbeats 4000000 in
theorem w_X0_copyFrom_93 {sh : List gb_Sh} {b : Nat} {b1 : Nat}  : ∀ (n : Nat) {g : gb_G} {y2 : Int32} {o : (gb_G)} (h : f_X0_copyFrom_93 sh b b1 n g y2 = some o), gb_Fr (fun c k => (c = b ∧ k = 0) ∨ (c = b ∧ k = 2) ∨ (c = b ∧ k = 4) ∨ (c = b ∧ k = 7) ∨ (c = b ∧ k = 9) ∨ c = b + 1 ∨ c = b + 2 ∨ c = b + 3 ∨ c = b + 4 ∨ c = b + 5) g o := by
  intro n
  induction n with
  | zero => intro g y2 o h; cases h
  | succ n ih =>
    intro g y2 o h
    rw [f_X0_copyFrom_93] at h
    have Fg : gb_Fr (fun c k => (c = b ∧ k = 0) ∨ (c = b ∧ k = 2) ∨ (c = b ∧ k = 4) ∨ (c = b ∧ k = 7) ∨ (c = b ∧ k = 9) ∨ c = b + 1 ∨ c = b + 2 ∨ c = b + 3 ∨ c = b + 4 ∨ c = b + 5) g g := gb_Fr.rf
    rcases gb_ite_e h with h | h
    · obtain ⟨g13, eg13, h⟩ := gb_let_x h
      have Fg13 := gb_Fr.tr Fg (gb_Fr.pi (Or.inr (Or.inr (Or.inr (Or.inr (Or.inl (⟨rfl, rfl⟩)))))) eg13)
      cases h
      exact Fg13
    · obtain ⟨-, h⟩ := gb_ck_e h
      obtain ⟨-, h⟩ := gb_ck_e h
      obtain ⟨-, h⟩ := gb_oq_e h
      obtain ⟨g16, eg16, h⟩ := gb_let_x h
      have Fg16 := gb_Fr.tr Fg (gb_Fr.pr (Or.inr (Or.inr (Or.inr (Or.inr (Or.inr (Or.inr (Or.inr (Or.inr (Or.inr (rfl)))))))))) eg16)
      exact gb_Fr.tr Fg16 (ih h)
set_option maxRecDepth 100000 in
set_option maxHeartbeats 4000000 in
theorem w_X0_copyFrom {sh : List gb_Sh} {b : Nat} {b1 : Nat} {g : gb_G}  {o : (gb_G)} (h : f_X0_copyFrom sh g b b1 = some o) : gb_Fr (fun c k => (c = b ∧ k = 0) ∨ (c = b ∧ k = 2) ∨ (c = b ∧ k = 4) ∨ (c = b ∧ k = 7) ∨ (c = b ∧ k = 9) ∨ c = b + 1 ∨ c = b + 2 ∨ c = b + 3 ∨ c = b + 4 ∨ c = b + 5) g o := by
  unfold f_X0_copyFrom at h
  have Fg : gb_Fr (fun c k => (c = b ∧ k = 0) ∨ (c = b ∧ k = 2) ∨ (c = b ∧ k = 4) ∨ (c = b ∧ k = 7) ∨ (c = b ∧ k = 9) ∨ c = b + 1 ∨ c = b + 2 ∨ c = b + 3 ∨ c = b + 4 ∨ c = b + 5) g g := gb_Fr.rf
  obtain ⟨g1, eg1, h⟩ := gb_let_x h
  have Fg1 := gb_Fr.tr Fg (gb_Fr.pi (Or.inl (⟨rfl, rfl⟩)) eg1)
  obtain ⟨-, h⟩ := gb_cp_e h
  obtain ⟨g3, eg3, h⟩ := gb_let_x h
  have Fg3 := gb_Fr.tr Fg1 (gb_Fr.pa (fun _ => Or.inr (Or.inr (Or.inr (Or.inr (Or.inr (Or.inl (rfl))))))) eg3)
  obtain ⟨g4, eg4, h⟩ := gb_let_x h
  have Fg4 := gb_Fr.tr Fg3 (gb_Fr.pi (Or.inr (Or.inl (⟨rfl, rfl⟩))) eg4)
  obtain ⟨-, h⟩ := gb_cp_e h
  obtain ⟨g6, eg6, h⟩ := gb_let_x h
  have Fg6 := gb_Fr.tr Fg4 (gb_Fr.pa (fun _ => Or.inr (Or.inr (Or.inr (Or.inr (Or.inr (Or.inr (Or.inl (rfl)))))))) eg6)
  obtain ⟨g7, eg7, h⟩ := gb_let_x h
  have Fg7 := gb_Fr.tr Fg6 (gb_Fr.pi (Or.inr (Or.inr (Or.inl (⟨rfl, rfl⟩)))) eg7)
  obtain ⟨-, h⟩ := gb_cp_e h
  obtain ⟨g9, eg9, h⟩ := gb_let_x h
  have Fg9 := gb_Fr.tr Fg7 (gb_Fr.pa (fun _ => Or.inr (Or.inr (Or.inr (Or.inr (Or.inr (Or.inr (Or.inr (Or.inl (rfl))))))))) eg9)
  obtain ⟨-, h⟩ := gb_cp_e h
  obtain ⟨g11, eg11, h⟩ := gb_let_x h
  have Fg11 := gb_Fr.tr Fg9 (gb_Fr.pa (fun _ => Or.inr (Or.inr (Or.inr (Or.inr (Or.inr (Or.inr (Or.inr (Or.inr (Or.inl (rfl)))))))))) eg11)
  obtain ⟨g12, eg12, h⟩ := gb_let_x h
  have Fg12 := gb_Fr.tr Fg11 (gb_Fr.pi (Or.inr (Or.inr (Or.inr (Or.inl (⟨rfl, rfl⟩))))) eg12)
  exact gb_Fr.tr Fg12 (w_X0_copyFrom_93 _ h)
set_option maxRecDepth 100000 in
set_option maxHeartbeats 4000000 in
theorem w_X10_within {sh : List gb_Sh} {x1 : Int32} {x2 : Int32} {x3 : Int32} {g : gb_G}  {o : (gb_G × Int32)} (h : f_X10_within sh g x1 x2 x3 = some o) : gb_Fr (fun _ _ => False) g o.1 := by
  unfold f_X10_within at h
  have Fg : gb_Fr (fun _ _ => False) g g := gb_Fr.rf
  rcases gb_ite_e h with h | h
  · cases h
    exact Fg
  · rcases gb_ite_e h with h | h
    · cases h
      exact Fg
    · cases h
      exact Fg
set_option maxRecDepth 100000 in
set_option maxHeartbeats 4000000 in
theorem w_X0_has {sh : List gb_Sh} {b : Nat} {x1 : Int32} {g : gb_G}  {o : (gb_G × Int32)} (h : f_X0_has sh g b x1 = some o) : gb_Fr (fun _ _ => False) g o.1 := by
  unfold f_X0_has at h
  have Fg : gb_Fr (fun _ _ => False) g g := gb_Fr.rf
  obtain ⟨r1, er1, h⟩ := gb_bd_e h
  have Fr1 := gb_Fr.tr Fg (gb_Fr.up (w_X10_within er1) (fun _ _ hw => hw.elim))
  obtain ⟨-, h⟩ := gb_bo_e h
  cases h
  exact Fr1
set_option maxRecDepth 100000 in
set_option maxHeartbeats 4000000 in
theorem w_J9_min_7cf53 {sh : List gb_Sh} {x1 : Int32} {x2 : Int32} {g : gb_G}  {o : (gb_G × Int32)} (h : f_J9_min_7cf53 sh g x1 x2 = some o) : gb_Fr (fun _ _ => False) g o.1 := by
  unfold f_J9_min_7cf53 at h
  have Fg : gb_Fr (fun _ _ => False) g g := gb_Fr.rf
  rcases gb_ite_e h with h | h
  · cases h
    exact Fg
  · cases h
    exact Fg
set_option maxRecDepth 100000 in
set_option maxHeartbeats 4000000 in
theorem w_X0_write {sh : List gb_Sh} {b : Nat} {x1 : Int32} {x2 : Int32} {x3 : Int32} {g : gb_G}  {o : (gb_G)} (h : f_X0_write sh g b x1 x2 x3 = some o) : gb_Fr (fun c k => c = b + 1) g o := by
  unfold f_X0_write at h
  have Fg : gb_Fr (fun c k => c = b + 1) g g := gb_Fr.rf
  obtain ⟨r1, er1, h⟩ := gb_bd_e h
  have Fr1 := gb_Fr.tr Fg (gb_Fr.up (w_X0_has er1) (fun _ _ hw => hw.elim))
  rcases gb_ite_e h with h | h
  · cases h
    exact Fr1
  · obtain ⟨r3, er3, h⟩ := gb_bd_e h
    have Fr3 := gb_Fr.tr Fr1 (gb_Fr.up (w_X10_within er3) (fun _ _ hw => hw.elim))
    rcases gb_ite_e h with h | h
    · cases h
      exact Fr3
    · obtain ⟨-, h⟩ := gb_ck_e h
      obtain ⟨g6, eg6, h⟩ := gb_let_x h
      have Fg6 := gb_Fr.tr Fr3 (gb_Fr.pi (rfl) eg6)
      cases h
      exact Fg6
set_option maxRecDepth 100000 in
set_option maxHeartbeats 4000000 in
theorem w_X0_add {sh : List gb_Sh} {b : Nat} {x1 : Int32} {x2 : Int32} {x3 : Int32} {x4 : Int32} {x5 : Int32} {g : gb_G}  {o : (gb_G × Int32)} (h : f_X0_add sh g b x1 x2 x3 x4 x5 = some o) : gb_Fr (fun c k => (c = b ∧ k = 0) ∨ c = b + 1) g o.1 := by
  unfold f_X0_add at h
  have Fg : gb_Fr (fun c k => (c = b ∧ k = 0) ∨ c = b + 1) g g := gb_Fr.rf
  obtain ⟨r1, er1, h⟩ := gb_bd_e h
  have Fr1 := gb_Fr.tr Fg (gb_Fr.up (w_J9_min_7cf53 er1) (fun _ _ hw => hw.elim))
  obtain ⟨g3, eg3, h⟩ := gb_let_x h
  have Fg3 := gb_Fr.tr Fr1 (gb_Fr.pi (Or.inl (⟨rfl, rfl⟩)) eg3)
  obtain ⟨r4, er4, h⟩ := gb_bd_e h
  have Fr4 := gb_Fr.tr Fg3 (gb_Fr.up (w_X0_write er4) (fun _ _ hw => Or.inr (hw)))
  obtain ⟨r6, er6, h⟩ := gb_bd_e h
  have Fr6 := gb_Fr.tr Fr4 (gb_Fr.up (w_X0_write er6) (fun _ _ hw => Or.inr (hw)))
  obtain ⟨r8, er8, h⟩ := gb_bd_e h
  have Fr8 := gb_Fr.tr Fr6 (gb_Fr.up (w_X0_write er8) (fun _ _ hw => Or.inr (hw)))
  obtain ⟨r10, er10, h⟩ := gb_bd_e h
  have Fr10 := gb_Fr.tr Fr8 (gb_Fr.up (w_X0_write er10) (fun _ _ hw => Or.inr (hw)))
  obtain ⟨r12, er12, h⟩ := gb_bd_e h
  have Fr12 := gb_Fr.tr Fr10 (gb_Fr.up (w_X0_write er12) (fun _ _ hw => Or.inr (hw)))
  obtain ⟨r14, er14, h⟩ := gb_bd_e h
  have Fr14 := gb_Fr.tr Fr12 (gb_Fr.up (w_X0_write er14) (fun _ _ hw => Or.inr (hw)))
  obtain ⟨r16, er16, h⟩ := gb_bd_e h
  have Fr16 := gb_Fr.tr Fr14 (gb_Fr.up (w_X0_write er16) (fun _ _ hw => Or.inr (hw)))
  cases h
  exact Fr16
set_option maxRecDepth 100000 in
set_option maxHeartbeats 4000000 in
theorem w_X0_read_27 {sh : List gb_Sh} {b : Nat} {y1 : Int32} {y2 : Int32} {z0 : Int32} {g : gb_G}  {o : (gb_G × Int32)} (h : f_X0_read_27 sh b g y1 y2 z0 = some o) : gb_Fr (fun _ _ => False) g o.1 := by
  unfold f_X0_read_27 at h
  have Fg : gb_Fr (fun _ _ => False) g g := gb_Fr.rf
  rcases gb_ite_e h with h | h
  · cases h
    exact Fg
  · obtain ⟨-, h⟩ := gb_ck_e h
    cases h
    exact Fg
set_option maxRecDepth 100000 in
set_option maxHeartbeats 4000000 in
theorem w_X0_read {sh : List gb_Sh} {b : Nat} {x1 : Int32} {x2 : Int32} {g : gb_G}  {o : (gb_G × Int32)} (h : f_X0_read sh g b x1 x2 = some o) : gb_Fr (fun _ _ => False) g o.1 := by
  unfold f_X0_read at h
  have Fg : gb_Fr (fun _ _ => False) g g := gb_Fr.rf
  rcases gb_ite_e h with h | h
  · exact gb_Fr.tr Fg (w_X0_read_27 h)
  · rcases gb_ite_e h with h | h
    · exact gb_Fr.tr Fg (w_X0_read_27 h)
    · rcases gb_ite_e h with h | h
      · exact gb_Fr.tr Fg (w_X0_read_27 h)
      · rcases gb_ite_e h with h | h
        · exact gb_Fr.tr Fg (w_X0_read_27 h)
        · exact gb_Fr.tr Fg (w_X0_read_27 h)
set_option maxRecDepth 100000 in
set_option maxHeartbeats 4000000 in
theorem w_X0_lacks {sh : List gb_Sh} {b : Nat} {x1 : Int32} {g : gb_G}  {o : (gb_G × Int32)} (h : f_X0_lacks sh g b x1 = some o) : gb_Fr (fun _ _ => False) g o.1 := by
  unfold f_X0_lacks at h
  have Fg : gb_Fr (fun _ _ => False) g g := gb_Fr.rf
  obtain ⟨r1, er1, h⟩ := gb_bd_e h
  have Fr1 := gb_Fr.tr Fg (gb_Fr.up (w_X0_read er1) (fun _ _ hw => hw.elim))
  rcases gb_ite_e h with h | h
  · cases h
    exact Fr1
  · cases h
    exact Fr1
set_option maxRecDepth 100000 in
set_option maxHeartbeats 4000000 in
theorem w_X0_lackingCount_4 {sh : List gb_Sh} {b : Nat}  : ∀ (n : Nat) {g : gb_G} {y1 : Int32} {y2 : Int32} {o : (gb_G × Int32)} (h : f_X0_lackingCount_4 sh b n g y1 y2 = some o), gb_Fr (fun _ _ => False) g o.1 := by
  intro n
  induction n with
  | zero => intro g y1 y2 o h; cases h
  | succ n ih =>
    intro g y1 y2 o h
    rw [f_X0_lackingCount_4] at h
    have Fg : gb_Fr (fun _ _ => False) g g := gb_Fr.rf
    rcases gb_ite_e h with h | h
    · cases h
      exact Fg
    · obtain ⟨r1, er1, h⟩ := gb_bd_e h
      have Fr1 := gb_Fr.tr Fg (gb_Fr.up (w_X0_read er1) (fun _ _ hw => hw.elim))
      exact gb_Fr.tr Fr1 (ih h)
set_option maxRecDepth 100000 in
set_option maxHeartbeats 4000000 in
theorem w_X0_lackingCount {sh : List gb_Sh} {b : Nat} {g : gb_G}  {o : (gb_G × Int32)} (h : f_X0_lackingCount sh g b = some o) : gb_Fr (fun _ _ => False) g o.1 := by
  unfold f_X0_lackingCount at h
  have Fg : gb_Fr (fun _ _ => False) g g := gb_Fr.rf
  exact gb_Fr.tr Fg (w_X0_lackingCount_4 _ h)
set_option maxRecDepth 100000 in
set_option maxHeartbeats 4000000 in
theorem w_X0_sourceOf {sh : List gb_Sh} {b : Nat} {x1 : Int32} {g : gb_G}  {o : (gb_G × Int32)} (h : f_X0_sourceOf sh g b x1 = some o) : gb_Fr (fun _ _ => False) g o.1 := by
  unfold f_X0_sourceOf at h
  have Fg : gb_Fr (fun _ _ => False) g g := gb_Fr.rf
  obtain ⟨r1, er1, h⟩ := gb_bd_e h
  have Fr1 := gb_Fr.tr Fg (gb_Fr.up (w_X0_read er1) (fun _ _ hw => hw.elim))
  rcases gb_ite_e h with h | h
  · obtain ⟨r3, er3, h⟩ := gb_bd_e h
    have Fr3 := gb_Fr.tr Fr1 (gb_Fr.up (w_X0_read er3) (fun _ _ hw => hw.elim))
    cases h
    exact Fr3
  · cases h
    exact Fr1
set_option maxRecDepth 100000 in
set_option maxHeartbeats 4000000 in
theorem w_X0_ownWeight {sh : List gb_Sh} {b : Nat} {x1 : Int32} {x2 : Int32} {g : gb_G}  {o : (gb_G × Int32)} (h : f_X0_ownWeight sh g b x1 x2 = some o) : gb_Fr (fun _ _ => False) g o.1 := by
  unfold f_X0_ownWeight at h
  have Fg : gb_Fr (fun _ _ => False) g g := gb_Fr.rf
  obtain ⟨r1, er1, h⟩ := gb_bd_e h
  have Fr1 := gb_Fr.tr Fg (gb_Fr.up (w_X10_within er1) (fun _ _ hw => hw.elim))
  rcases gb_ite_e h with h | h
  · cases h
    exact Fr1
  · obtain ⟨r3, er3, h⟩ := gb_bd_e h
    have Fr3 := gb_Fr.tr Fr1 (gb_Fr.up (w_X10_within er3) (fun _ _ hw => hw.elim))
    rcases gb_ite_e h with h | h
    · cases h
      exact Fr3
    · obtain ⟨-, h⟩ := gb_ck_e h
      cases h
      exact Fr3
set_option maxRecDepth 100000 in
set_option maxHeartbeats 4000000 in
theorem w_X0_enact {sh : List gb_Sh} {b : Nat} {b1 : Nat} {g : gb_G}  {o : (gb_G × Int32)} (h : f_X0_enact sh g b b1 = some o) : gb_Fr (fun c k => (c = b ∧ k = 7) ∨ c = b + 5) g o.1 := by
  unfold f_X0_enact at h
  have Fg : gb_Fr (fun c k => (c = b ∧ k = 7) ∨ c = b + 5) g g := gb_Fr.rf
  obtain ⟨r1, er1, h⟩ := gb_bd_e h
  have Fr1 := gb_Fr.tr Fg (gb_Fr.up (w_J9_min_7cf53 er1) (fun _ _ hw => hw.elim))
  obtain ⟨g3, eg3, h⟩ := gb_let_x h
  have Fg3 := gb_Fr.tr Fr1 (gb_Fr.pi (Or.inl (⟨rfl, rfl⟩)) eg3)
  obtain ⟨-, h⟩ := gb_ck_e h
  obtain ⟨g5, eg5, h⟩ := gb_let_x h
  have Fg5 := gb_Fr.tr Fg3 (gb_Fr.pr (Or.inr (rfl)) eg5)
  cases h
  exact Fg5
set_option maxRecDepth 100000 in
set_option maxHeartbeats 4000000 in
theorem w_X0_lawAt {sh : List gb_Sh} {b : Nat} {x1 : Int32} {g : gb_G}  {o : (gb_G × Option Nat)} (h : f_X0_lawAt sh g b x1 = some o) : gb_Fr (fun _ _ => False) g o.1 := by
  unfold f_X0_lawAt at h
  have Fg : gb_Fr (fun _ _ => False) g g := gb_Fr.rf
  obtain ⟨r1, er1, h⟩ := gb_bd_e h
  have Fr1 := gb_Fr.tr Fg (gb_Fr.up (w_X10_within er1) (fun _ _ hw => hw.elim))
  rcases gb_ite_e h with h | h
  · cases h
    exact Fr1
  · obtain ⟨-, h⟩ := gb_ck_e h
    cases h
    exact Fr1
set_option maxRecDepth 100000 in
set_option maxHeartbeats 4000000 in
theorem w_X0_lawInForce {sh : List gb_Sh} {b : Nat} {g : gb_G}  {o : (gb_G × Option Nat)} (h : f_X0_lawInForce sh g b = some o) : gb_Fr (fun _ _ => False) g o.1 := by
  unfold f_X0_lawInForce at h
  have Fg : gb_Fr (fun _ _ => False) g g := gb_Fr.rf
  obtain ⟨r1, er1, h⟩ := gb_bd_e h
  have Fr1 := gb_Fr.tr Fg (gb_Fr.up (w_X0_lawAt er1) (fun _ _ hw => hw.elim))
  cases h
  exact Fr1
set_option maxRecDepth 100000 in
set_option maxHeartbeats 4000000 in
theorem w_J9_max_7cf53 {sh : List gb_Sh} {x1 : Int32} {x2 : Int32} {g : gb_G}  {o : (gb_G × Int32)} (h : f_J9_max_7cf53 sh g x1 x2 = some o) : gb_Fr (fun _ _ => False) g o.1 := by
  unfold f_J9_max_7cf53 at h
  have Fg : gb_Fr (fun _ _ => False) g g := gb_Fr.rf
  rcases gb_ite_e h with h | h
  · cases h
    exact Fg
  · cases h
    exact Fg
set_option maxRecDepth 100000 in
set_option maxHeartbeats 4000000 in
theorem w_X0_befall {sh : List gb_Sh} {b : Nat} {x1 : Int32} {x2 : Int32} {g : gb_G}  {o : (gb_G)} (h : f_X0_befall sh g b x1 x2 = some o) : gb_Fr (fun c k => c = b + 1) g o := by
  unfold f_X0_befall at h
  have Fg : gb_Fr (fun c k => c = b + 1) g g := gb_Fr.rf
  obtain ⟨r1, er1, h⟩ := gb_bd_e h
  have Fr1 := gb_Fr.tr Fg (gb_Fr.up (w_X0_read er1) (fun _ _ hw => hw.elim))
  rcases gb_ite_e h with h | h
  · obtain ⟨r4, er4, h⟩ := gb_bd_e h
    have Fr4 := gb_Fr.tr Fr1 (gb_Fr.up (w_X0_write er4) (fun _ _ hw => hw))
    cases h
    exact Fr4
  · rcases gb_ite_e h with h | h
    · obtain ⟨r7, er7, h⟩ := gb_bd_e h
      have Fr7 := gb_Fr.tr Fr1 (gb_Fr.up (w_X0_write er7) (fun _ _ hw => hw))
      cases h
      exact Fr7
    · rcases gb_ite_e h with h | h
      · obtain ⟨r10, er10, h⟩ := gb_bd_e h
        have Fr10 := gb_Fr.tr Fr1 (gb_Fr.up (w_J9_min_7cf53 er10) (fun _ _ hw => hw.elim))
        obtain ⟨r12, er12, h⟩ := gb_bd_e h
        have Fr12 := gb_Fr.tr Fr10 (gb_Fr.up (w_X0_write er12) (fun _ _ hw => hw))
        cases h
        exact Fr12
      · obtain ⟨r14, er14, h⟩ := gb_bd_e h
        have Fr14 := gb_Fr.tr Fr1 (gb_Fr.up (w_J9_max_7cf53 er14) (fun _ _ hw => hw.elim))
        obtain ⟨r16, er16, h⟩ := gb_bd_e h
        have Fr16 := gb_Fr.tr Fr14 (gb_Fr.up (w_X0_write er16) (fun _ _ hw => hw))
        cases h
        exact Fr16
set_option maxRecDepth 100000 in
set_option maxHeartbeats 4000000 in
theorem w_X10_nearest {sh : List gb_Sh} {x1 : Int32} {x2 : Int32} {x3 : Int32} {g : gb_G}  {o : (gb_G × Int32)} (h : f_X10_nearest sh g x1 x2 x3 = some o) : gb_Fr (fun _ _ => False) g o.1 := by
  unfold f_X10_nearest at h
  have Fg : gb_Fr (fun _ _ => False) g g := gb_Fr.rf
  obtain ⟨r1, er1, h⟩ := gb_bd_e h
  have Fr1 := gb_Fr.tr Fg (gb_Fr.up (w_J9_min_7cf53 er1) (fun _ _ hw => hw.elim))
  obtain ⟨r3, er3, h⟩ := gb_bd_e h
  have Fr3 := gb_Fr.tr Fr1 (gb_Fr.up (w_J9_max_7cf53 er3) (fun _ _ hw => hw.elim))
  cases h
  exact Fr3
set_option maxRecDepth 100000 in
set_option maxHeartbeats 4000000 in
theorem w_X4_fillWords {sh : List gb_Sh} {b1 : Nat} {x2 : Int32} {g : gb_G}  {o : (gb_G)} (h : f_X4_fillWords sh g b1 x2 = some o) : gb_Fr (fun c k => c = 55) g o := by
  unfold f_X4_fillWords at h
  have Fg : gb_Fr (fun c k => c = 55) g g := gb_Fr.rf
  obtain ⟨g1, eg1, h⟩ := gb_let_x h
  have Fg1 := gb_Fr.tr Fg (gb_Fr.pi (rfl) eg1)
  obtain ⟨r2, er2, h⟩ := gb_bd_e h
  have Fr2 := gb_Fr.tr Fg1 (gb_Fr.up (w_X0_read er2) (fun _ _ hw => hw.elim))
  obtain ⟨g4, eg4, h⟩ := gb_let_x h
  have Fg4 := gb_Fr.tr Fr2 (gb_Fr.pi (rfl) eg4)
  obtain ⟨r5, er5, h⟩ := gb_bd_e h
  have Fr5 := gb_Fr.tr Fg4 (gb_Fr.up (w_X0_read er5) (fun _ _ hw => hw.elim))
  obtain ⟨g7, eg7, h⟩ := gb_let_x h
  have Fg7 := gb_Fr.tr Fr5 (gb_Fr.pi (rfl) eg7)
  obtain ⟨r8, er8, h⟩ := gb_bd_e h
  have Fr8 := gb_Fr.tr Fg7 (gb_Fr.up (w_X0_read er8) (fun _ _ hw => hw.elim))
  obtain ⟨g10, eg10, h⟩ := gb_let_x h
  have Fg10 := gb_Fr.tr Fr8 (gb_Fr.pi (rfl) eg10)
  obtain ⟨r11, er11, h⟩ := gb_bd_e h
  have Fr11 := gb_Fr.tr Fg10 (gb_Fr.up (w_X0_read er11) (fun _ _ hw => hw.elim))
  obtain ⟨g13, eg13, h⟩ := gb_let_x h
  have Fg13 := gb_Fr.tr Fr11 (gb_Fr.pi (rfl) eg13)
  obtain ⟨r14, er14, h⟩ := gb_bd_e h
  have Fr14 := gb_Fr.tr Fg13 (gb_Fr.up (w_X0_read er14) (fun _ _ hw => hw.elim))
  obtain ⟨g16, eg16, h⟩ := gb_let_x h
  have Fg16 := gb_Fr.tr Fr14 (gb_Fr.pi (rfl) eg16)
  obtain ⟨r17, er17, h⟩ := gb_bd_e h
  have Fr17 := gb_Fr.tr Fg16 (gb_Fr.up (w_X0_read er17) (fun _ _ hw => hw.elim))
  obtain ⟨g19, eg19, h⟩ := gb_let_x h
  have Fg19 := gb_Fr.tr Fr17 (gb_Fr.pi (rfl) eg19)
  obtain ⟨g20, eg20, h⟩ := gb_let_x h
  have Fg20 := gb_Fr.tr Fg19 (gb_Fr.pi (rfl) eg20)
  obtain ⟨g21, eg21, h⟩ := gb_let_x h
  have Fg21 := gb_Fr.tr Fg20 (gb_Fr.pi (rfl) eg21)
  cases h
  exact Fg21
set_option maxRecDepth 100000 in
set_option maxHeartbeats 4000000 in
theorem w_X5_join_162 {sh : List gb_Sh} {g : gb_G}  {o : (gb_G × Int32)} (h : f_X5_join_162 sh g = some o) : gb_Fr (fun _ _ => False) g o.1 := by
  unfold f_X5_join_162 at h
  have Fg : gb_Fr (fun _ _ => False) g g := gb_Fr.rf
  cases h
  exact Fg
set_option maxRecDepth 100000 in
set_option maxHeartbeats 4000000 in
theorem w_X5_join_146 {sh : List gb_Sh} {y3 : Int64} {g : gb_G}  {o : (gb_G × Int32)} (h : f_X5_join_146 sh g y3 = some o) : gb_Fr (fun _ _ => False) g o.1 := by
  unfold f_X5_join_146 at h
  have Fg : gb_Fr (fun _ _ => False) g g := gb_Fr.rf
  rcases gb_ite_e h with h | h
  · exact gb_Fr.tr Fg (w_X5_join_162 h)
  · rcases gb_ite_e h with h | h
    · cases h
      exact Fg
    · exact gb_Fr.tr Fg (w_X5_join_162 h)
set_option maxRecDepth 100000 in
set_option maxHeartbeats 4000000 in
theorem w_X5_join_117 {sh : List gb_Sh} {K146 : gb_G → Int64 → Option (gb_G × Int32)} {z0 : Int64} {g : gb_G} (hK146 : ∀ {a0 : gb_G} {a1 : Int64} {o : (gb_G × Int32)}, K146 a0 a1 = some o → gb_Fr (fun _ _ => False) a0 o.1) {o : (gb_G × Int32)} (h : f_X5_join_117 sh K146 g z0 = some o) : gb_Fr (fun _ _ => False) g o.1 := by
  unfold f_X5_join_117 at h
  have Fg : gb_Fr (fun _ _ => False) g g := gb_Fr.rf
  exact gb_Fr.tr Fg (hK146 h)
set_option maxRecDepth 100000 in
set_option maxHeartbeats 4000000 in
theorem w_X5_join_131 {sh : List gb_Sh} {K146 : gb_G → Int64 → Option (gb_G × Int32)} {z0 : Int64} {g : gb_G} (hK146 : ∀ {a0 : gb_G} {a1 : Int64} {o : (gb_G × Int32)}, K146 a0 a1 = some o → gb_Fr (fun _ _ => False) a0 o.1) {o : (gb_G × Int32)} (h : f_X5_join_131 sh K146 g z0 = some o) : gb_Fr (fun _ _ => False) g o.1 := by
  unfold f_X5_join_131 at h
  have Fg : gb_Fr (fun _ _ => False) g g := gb_Fr.rf
  exact gb_Fr.tr Fg (hK146 h)
set_option maxRecDepth 100000 in
set_option maxHeartbeats 4000000 in
theorem w_X5_join_145 {sh : List gb_Sh} {K146 : gb_G → Int64 → Option (gb_G × Int32)} {z0 : Int64} {g : gb_G} (hK146 : ∀ {a0 : gb_G} {a1 : Int64} {o : (gb_G × Int32)}, K146 a0 a1 = some o → gb_Fr (fun _ _ => False) a0 o.1) {o : (gb_G × Int32)} (h : f_X5_join_145 sh K146 g z0 = some o) : gb_Fr (fun _ _ => False) g o.1 := by
  unfold f_X5_join_145 at h
  have Fg : gb_Fr (fun _ _ => False) g g := gb_Fr.rf
  exact gb_Fr.tr Fg (hK146 h)
set_option maxRecDepth 100000 in
set_option maxHeartbeats 4000000 in
theorem w_X5_join_19 {sh : List gb_Sh} {y0 : Int32} {y1 : Int32} {y2 : Int32} {g : gb_G}  {o : (gb_G × Int32)} (h : f_X5_join_19 sh g y0 y1 y2 = some o) : gb_Fr (fun _ _ => False) g o.1 := by
  unfold f_X5_join_19 at h
  have Fg : gb_Fr (fun _ _ => False) g g := gb_Fr.rf
  rcases gb_ite_e h with h | h
  · exact gb_Fr.tr Fg (w_X5_join_146 h)
  · rcases gb_ite_e h with h | h
    · exact gb_Fr.tr Fg (w_X5_join_146 h)
    · rcases gb_ite_e h with h | h
      · exact gb_Fr.tr Fg (w_X5_join_146 h)
      · rcases gb_ite_e h with h | h
        · obtain ⟨-, h⟩ := gb_nz_e h
          exact gb_Fr.tr Fg (w_X5_join_146 h)
        · rcases gb_ite_e h with h | h
          · obtain ⟨-, h⟩ := gb_nz_e h
            exact gb_Fr.tr Fg (w_X5_join_146 h)
          · rcases gb_ite_e h with h | h
            · rcases gb_ite_e h with h | h
              · exact gb_Fr.tr Fg (w_X5_join_117 (fun hh => w_X5_join_146 hh) h)
              · exact gb_Fr.tr Fg (w_X5_join_117 (fun hh => w_X5_join_146 hh) h)
            · rcases gb_ite_e h with h | h
              · rcases gb_ite_e h with h | h
                · exact gb_Fr.tr Fg (w_X5_join_131 (fun hh => w_X5_join_146 hh) h)
                · exact gb_Fr.tr Fg (w_X5_join_131 (fun hh => w_X5_join_146 hh) h)
              · rcases gb_ite_e h with h | h
                · exact gb_Fr.tr Fg (w_X5_join_145 (fun hh => w_X5_join_146 hh) h)
                · exact gb_Fr.tr Fg (w_X5_join_145 (fun hh => w_X5_join_146 hh) h)
set_option maxRecDepth 100000 in
set_option maxHeartbeats 4000000 in
theorem w_X5_join_16 {sh : List gb_Sh} {g : gb_G}  {o : (gb_G × Int32)} (h : f_X5_join_16 sh g = some o) : gb_Fr (fun _ _ => False) g o.1 := by
  unfold f_X5_join_16 at h
  have Fg : gb_Fr (fun _ _ => False) g g := gb_Fr.rf
  cases h
  exact Fg
set_option maxRecDepth 100000 in
set_option maxHeartbeats 4000000 in
theorem w_X5_join {sh : List gb_Sh} {x1 : Int32} {x2 : Int32} {x3 : Int32} {g : gb_G}  {o : (gb_G × Int32)} (h : f_X5_join sh g x1 x2 x3 = some o) : gb_Fr (fun _ _ => False) g o.1 := by
  unfold f_X5_join at h
  have Fg : gb_Fr (fun _ _ => False) g g := gb_Fr.rf
  rcases gb_ite_e h with h | h
  · rcases gb_ite_e h with h | h
    · exact gb_Fr.tr Fg (w_X5_join_16 h)
    · rcases gb_ite_e h with h | h
      · exact gb_Fr.tr Fg (w_X5_join_16 h)
      · exact gb_Fr.tr Fg (w_X5_join_19 h)
  · exact gb_Fr.tr Fg (w_X5_join_19 h)
set_option maxRecDepth 100000 in
set_option maxHeartbeats 4000000 in
theorem w_X5_run_24 {sh : List gb_Sh} {b1 : Nat} {a4 : Nat} {n4 : Nat} {g : gb_G}  {o : (gb_G × Int32)} (h : f_X5_run_24 sh b1 a4 n4 g = some o) : gb_Fr (fun c k => c = 53) g o.1 := by
  unfold f_X5_run_24 at h
  have Fg : gb_Fr (fun c k => c = 53) g g := gb_Fr.rf
  cases h
  exact Fg
set_option maxRecDepth 100000 in
set_option maxHeartbeats 4000000 in
theorem w_X5_run_324 {sh : List gb_Sh} {b1 : Nat} {a4 : Nat} {n4 : Nat} {y8 : Int32} {g : gb_G}  {o : (gb_G × Int32)} (h : f_X5_run_324 sh b1 a4 n4 g y8 = some o) : gb_Fr (fun c k => c = 53) g o.1 := by
  unfold f_X5_run_324 at h
  have Fg : gb_Fr (fun c k => c = 53) g g := gb_Fr.rf
  rcases gb_ite_e h with h | h
  · cases h
    exact Fg
  · cases h
    exact Fg
set_option maxRecDepth 100000 in
set_option maxHeartbeats 4000000 in
theorem w_X5_run_292 {sh : List gb_Sh} {b1 : Nat} {a4 : Nat} {n4 : Nat} {K318 : gb_G → Int32 → Int32 → Int32 → Int32 → Option (gb_G × Int32)} {y6 : Int32} {y7 : Int32} {y8 : Int32} {y9 : Int32} {z0 : Int32} {g : gb_G} (hK318 : ∀ {a0 : gb_G} {a1 : Int32} {a2 : Int32} {a3 : Int32} {a4 : Int32} {o : (gb_G × Int32)}, K318 a0 a1 a2 a3 a4 = some o → gb_Fr (fun c k => c = 53) a0 o.1) {o : (gb_G × Int32)} (h : f_X5_run_292 sh b1 a4 n4 K318 g y6 y7 y8 y9 z0 = some o) : gb_Fr (fun c k => c = 53) g o.1 := by
  unfold f_X5_run_292 at h
  have Fg : gb_Fr (fun c k => c = 53) g g := gb_Fr.rf
  rcases gb_ite_e h with h | h
  · cases h
    exact Fg
  · obtain ⟨-, h⟩ := gb_ck_e h
    obtain ⟨g12, eg12, h⟩ := gb_let_x h
    have Fg12 := gb_Fr.tr Fg (gb_Fr.pi (rfl) eg12)
    exact gb_Fr.tr Fg12 (hK318 h)
set_option maxRecDepth 100000 in
set_option maxHeartbeats 4000000 in
theorem w_X5_run_318 {sh : List gb_Sh} {b1 : Nat} {a4 : Nat} {n4 : Nat} {K75 : gb_G → Int32 → Int32 → Int32 → Int32 → Option (gb_G × Int32)} {y6 : Int32} {y7 : Int32} {y8 : Int32} {y9 : Int32} {g : gb_G} (hK75 : ∀ {a0 : gb_G} {a1 : Int32} {a2 : Int32} {a3 : Int32} {a4 : Int32} {o : (gb_G × Int32)}, K75 a0 a1 a2 a3 a4 = some o → gb_Fr (fun c k => c = 53) a0 o.1) {o : (gb_G × Int32)} (h : f_X5_run_318 sh b1 a4 n4 K75 g y6 y7 y8 y9 = some o) : gb_Fr (fun c k => c = 53) g o.1 := by
  unfold f_X5_run_318 at h
  have Fg : gb_Fr (fun c k => c = 53) g g := gb_Fr.rf
  exact gb_Fr.tr Fg (hK75 h)
set_option maxRecDepth 100000 in
set_option maxHeartbeats 4000000 in
theorem w_X5_run_237 {sh : List gb_Sh} {b1 : Nat} {a4 : Nat} {n4 : Nat} {K318 : gb_G → Int32 → Int32 → Int32 → Int32 → Option (gb_G × Int32)} {y6 : Int32} {y7 : Int32} {y8 : Int32} {y9 : Int32} {y11 : Int32} {z0 : Int32} {z1 : Int32} {g : gb_G} (hK318 : ∀ {a0 : gb_G} {a1 : Int32} {a2 : Int32} {a3 : Int32} {a4 : Int32} {o : (gb_G × Int32)}, K318 a0 a1 a2 a3 a4 = some o → gb_Fr (fun c k => c = 53) a0 o.1) {o : (gb_G × Int32)} (h : f_X5_run_237 sh b1 a4 n4 K318 g y6 y7 y8 y9 y11 z0 z1 = some o) : gb_Fr (fun c k => c = 53) g o.1 := by
  unfold f_X5_run_237 at h
  have Fg : gb_Fr (fun c k => c = 53) g g := gb_Fr.rf
  rcases gb_ite_e h with h | h
  · obtain ⟨r14, er14, h⟩ := gb_bd_e h
    have Fr14 := gb_Fr.tr Fg (gb_Fr.up (w_J9_max_7cf53 er14) (fun _ _ hw => hw.elim))
    exact gb_Fr.tr Fr14 (hK318 h)
  · exact gb_Fr.tr Fg (hK318 h)
set_option maxRecDepth 100000 in
set_option maxHeartbeats 4000000 in
theorem w_X5_run_145 {sh : List gb_Sh} {b1 : Nat} {a4 : Nat} {n4 : Nat} {g : gb_G}  {o : (gb_G × Int32)} (h : f_X5_run_145 sh b1 a4 n4 g = some o) : gb_Fr (fun c k => c = 53) g o.1 := by
  unfold f_X5_run_145 at h
  have Fg : gb_Fr (fun c k => c = 53) g g := gb_Fr.rf
  cases h
  exact Fg
set_option maxRecDepth 100000 in
set_option maxHeartbeats 4000000 in
theorem w_X5_run_169 {sh : List gb_Sh} {b1 : Nat} {a4 : Nat} {n4 : Nat} {K318 : gb_G → Int32 → Int32 → Int32 → Int32 → Option (gb_G × Int32)} {y6 : Int32} {y7 : Int32} {y8 : Int32} {y9 : Int32} {z0 : Int32} {z1 : Int32} {g : gb_G} (hK318 : ∀ {a0 : gb_G} {a1 : Int32} {a2 : Int32} {a3 : Int32} {a4 : Int32} {o : (gb_G × Int32)}, K318 a0 a1 a2 a3 a4 = some o → gb_Fr (fun c k => c = 53) a0 o.1) {o : (gb_G × Int32)} (h : f_X5_run_169 sh b1 a4 n4 K318 g y6 y7 y8 y9 z0 z1 = some o) : gb_Fr (fun c k => c = 53) g o.1 := by
  unfold f_X5_run_169 at h
  have Fg : gb_Fr (fun c k => c = 53) g g := gb_Fr.rf
  obtain ⟨-, h⟩ := gb_ck_e h
  obtain ⟨g20, eg20, h⟩ := gb_let_x h
  have Fg20 := gb_Fr.tr Fg (gb_Fr.pi (rfl) eg20)
  exact gb_Fr.tr Fg20 (hK318 h)
set_option maxRecDepth 100000 in
set_option maxHeartbeats 4000000 in
theorem w_X5_run_148 {sh : List gb_Sh} {b1 : Nat} {a4 : Nat} {n4 : Nat} {K318 : gb_G → Int32 → Int32 → Int32 → Int32 → Option (gb_G × Int32)} {y6 : Int32} {y7 : Int32} {y8 : Int32} {y9 : Int32} {y10 : Int32} {y11 : Int32} {g : gb_G} (hK318 : ∀ {a0 : gb_G} {a1 : Int32} {a2 : Int32} {a3 : Int32} {a4 : Int32} {o : (gb_G × Int32)}, K318 a0 a1 a2 a3 a4 = some o → gb_Fr (fun c k => c = 53) a0 o.1) {o : (gb_G × Int32)} (h : f_X5_run_148 sh b1 a4 n4 K318 g y6 y7 y8 y9 y10 y11 = some o) : gb_Fr (fun c k => c = 53) g o.1 := by
  unfold f_X5_run_148 at h
  have Fg : gb_Fr (fun c k => c = 53) g g := gb_Fr.rf
  rcases gb_ite_e h with h | h
  · exact gb_Fr.tr Fg (w_X5_run_169 (hK318) h)
  · obtain ⟨-, h⟩ := gb_ck_e h
    exact gb_Fr.tr Fg (w_X5_run_169 (hK318) h)
set_option maxRecDepth 100000 in
set_option maxHeartbeats 4000000 in
theorem w_X5_run_75 {sh : List gb_Sh} {b1 : Nat} {a4 : Nat} {n4 : Nat}  : ∀ (n : Nat) {g : gb_G} {y6 : Int32} {y7 : Int32} {y8 : Int32} {y9 : Int32} {o : (gb_G × Int32)} (h : f_X5_run_75 sh b1 a4 n4 n g y6 y7 y8 y9 = some o), gb_Fr (fun c k => c = 53) g o.1 := by
  intro n
  induction n with
  | zero => intro g y6 y7 y8 y9 o h; cases h
  | succ n ih =>
    intro g y6 y7 y8 y9 o h
    rw [f_X5_run_75] at h
    have Fg : gb_Fr (fun c k => c = 53) g g := gb_Fr.rf
    rcases gb_ite_e h with h | h
    · exact gb_Fr.tr Fg (w_X5_run_324 h)
    · rcases gb_ite_e h with h | h
      · exact gb_Fr.tr Fg (w_X5_run_324 h)
      · obtain ⟨-, h⟩ := gb_ck_e h
        obtain ⟨-, h⟩ := gb_ck_e h
        rcases gb_ite_e h with h | h
        · rcases gb_ite_e h with h | h
          · rcases gb_ite_e h with h | h
            · obtain ⟨-, h⟩ := gb_ck_e h
              obtain ⟨-, h⟩ := gb_ck_e h
              obtain ⟨r9, er9, h⟩ := gb_bd_e h
              have Fr9 := gb_Fr.tr Fg (gb_Fr.up (w_X5_join er9) (fun _ _ hw => hw.elim))
              exact gb_Fr.tr Fr9 (w_X5_run_292 (fun hh => w_X5_run_318 (fun hh => ih hh) hh) h)
            · exact gb_Fr.tr Fg (w_X5_run_292 (fun hh => w_X5_run_318 (fun hh => ih hh) hh) h)
          · rcases gb_ite_e h with h | h
            · obtain ⟨-, h⟩ := gb_ck_e h
              rcases gb_ite_e h with h | h
              · obtain ⟨-, h⟩ := gb_ck_e h
                obtain ⟨g17, eg17, h⟩ := gb_let_x h
                have Fg17 := gb_Fr.tr Fg (gb_Fr.pi (rfl) eg17)
                exact gb_Fr.tr Fg17 (w_X5_run_318 (fun hh => ih hh) h)
              · rcases gb_ite_e h with h | h
                · exact gb_Fr.tr Fg (w_X5_run_237 (fun hh => w_X5_run_318 (fun hh => ih hh) hh) h)
                · exact gb_Fr.tr Fg (w_X5_run_237 (fun hh => w_X5_run_318 (fun hh => ih hh) hh) h)
            · cases h
              exact Fg
        · rcases gb_ite_e h with h | h
          · exact gb_Fr.tr Fg (w_X5_run_145 h)
          · rcases gb_ite_e h with h | h
            · rcases gb_ite_e h with h | h
              · exact gb_Fr.tr Fg (w_X5_run_145 h)
              · rcases gb_ite_e h with h | h
                · exact gb_Fr.tr Fg (w_X5_run_148 (fun hh => w_X5_run_318 (fun hh => ih hh) hh) h)
                · exact gb_Fr.tr Fg (w_X5_run_145 h)
            · exact gb_Fr.tr Fg (w_X5_run_148 (fun hh => w_X5_run_318 (fun hh => ih hh) hh) h)
set_option maxRecDepth 100000 in
set_option maxHeartbeats 4000000 in
theorem w_X5_run {sh : List gb_Sh} {b1 : Nat} {x2 : Int32} {x3 : Int32} {a4 : Nat} {n4 : Nat} {g : gb_G}  {o : (gb_G × Int32)} (h : f_X5_run sh g b1 x2 x3 a4 n4 = some o) : gb_Fr (fun c k => c = 53) g o.1 := by
  unfold f_X5_run at h
  have Fg : gb_Fr (fun c k => c = 53) g g := gb_Fr.rf
  rcases gb_ite_e h with h | h
  · exact gb_Fr.tr Fg (w_X5_run_24 h)
  · rcases gb_ite_e h with h | h
    · obtain ⟨-, h⟩ := gb_ck_e h
      obtain ⟨-, h⟩ := gb_ck_e h
      obtain ⟨r3, er3, h⟩ := gb_bd_e h
      have Fr3 := gb_Fr.tr Fg (gb_Fr.up (w_J9_min_7cf53 er3) (fun _ _ hw => hw.elim))
      rcases gb_ite_e h with h | h
      · cases h
        exact Fr3
      · rcases gb_ite_e h with h | h
        · exact gb_Fr.tr Fr3 (w_X5_run_75 _ h)
        · cases h
          exact Fr3
    · exact gb_Fr.tr Fg (w_X5_run_24 h)
set_option maxRecDepth 100000 in
set_option maxHeartbeats 4000000 in
theorem w_X4_tell_100 {sh : List gb_Sh} {b1 : Nat} {y3 : Int32} {y4 : Int32} {y5 : Int32} {z0 : Int32} {g : gb_G}  {o : (gb_G × Int32)} (h : f_X4_tell_100 sh b1 g y3 y4 y5 z0 = some o) : gb_Fr (fun c k => c = 53 ∨ c = 55) g o.1 := by
  unfold f_X4_tell_100 at h
  have Fg : gb_Fr (fun c k => c = 53 ∨ c = 55) g g := gb_Fr.rf
  rcases gb_ite_e h with h | h
  · rcases gb_ite_e h with h | h
    · obtain ⟨r4, er4, h⟩ := gb_bd_e h
      have Fr4 := gb_Fr.tr Fg (gb_Fr.up (w_X10_nearest er4) (fun _ _ hw => hw.elim))
      cases h
      exact Fr4
    · cases h
      exact Fg
  · rcases gb_ite_e h with h | h
    · obtain ⟨r7, er7, h⟩ := gb_bd_e h
      have Fr7 := gb_Fr.tr Fg (gb_Fr.up (w_X0_sourceOf er7) (fun _ _ hw => hw.elim))
      rcases gb_ite_e h with h | h
      · cases h
        exact Fr7
      · rcases gb_ite_e h with h | h
        · obtain ⟨r9, er9, h⟩ := gb_bd_e h
          have Fr9 := gb_Fr.tr Fr7 (gb_Fr.up (w_X10_nearest er9) (fun _ _ hw => hw.elim))
          cases h
          exact Fr9
        · obtain ⟨r11, er11, h⟩ := gb_bd_e h
          have Fr11 := gb_Fr.tr Fr7 (gb_Fr.up (w_X0_read er11) (fun _ _ hw => hw.elim))
          cases h
          exact Fr11
    · rcases gb_ite_e h with h | h
      · rcases gb_ite_e h with h | h
        · obtain ⟨r14, er14, h⟩ := gb_bd_e h
          have Fr14 := gb_Fr.tr Fg (gb_Fr.up (w_X10_nearest er14) (fun _ _ hw => hw.elim))
          cases h
          exact Fr14
        · obtain ⟨r16, er16, h⟩ := gb_bd_e h
          have Fr16 := gb_Fr.tr Fg (gb_Fr.up (w_X0_read er16) (fun _ _ hw => hw.elim))
          cases h
          exact Fr16
      · rcases gb_ite_e h with h | h
        · cases h
          exact Fg
        · cases h
          exact Fg
set_option maxRecDepth 100000 in
set_option maxHeartbeats 4000000 in
theorem w_X4_tell_88 {sh : List gb_Sh} {b1 : Nat} {y3 : Int32} {y4 : Int32} {y5 : Int32} {g : gb_G}  {o : (gb_G × Int32)} (h : f_X4_tell_88 sh b1 g y3 y4 y5 = some o) : gb_Fr (fun c k => c = 53 ∨ c = 55) g o.1 := by
  unfold f_X4_tell_88 at h
  have Fg : gb_Fr (fun c k => c = 53 ∨ c = 55) g g := gb_Fr.rf
  rcases gb_ite_e h with h | h
  · exact gb_Fr.tr Fg (w_X4_tell_100 h)
  · exact gb_Fr.tr Fg (w_X4_tell_100 h)
set_option maxRecDepth 100000 in
set_option maxHeartbeats 4000000 in
theorem w_X4_tell_82 {sh : List gb_Sh} {b1 : Nat} {K22 : gb_G → Nat → Int32 → Int32 → Int32 → Int32 → Option (gb_G × Int32)} {y2 : Nat} {y3 : Int32} {y4 : Int32} {y5 : Int32} {y6 : Int32} {g : gb_G} (hK22 : ∀ {a0 : gb_G} {a1 : Nat} {a2 : Int32} {a3 : Int32} {a4 : Int32} {a5 : Int32} {o : (gb_G × Int32)}, K22 a0 a1 a2 a3 a4 a5 = some o → gb_Fr (fun c k => c = 53 ∨ c = 55) a0 o.1) {o : (gb_G × Int32)} (h : f_X4_tell_82 sh b1 K22 g y2 y3 y4 y5 y6 = some o) : gb_Fr (fun c k => c = 53 ∨ c = 55) g o.1 := by
  unfold f_X4_tell_82 at h
  have Fg : gb_Fr (fun c k => c = 53 ∨ c = 55) g g := gb_Fr.rf
  exact gb_Fr.tr Fg (hK22 h)
set_option maxRecDepth 100000 in
set_option maxHeartbeats 4000000 in
theorem w_X4_tell_22 {sh : List gb_Sh} {b1 : Nat} {K88 : gb_G → Int32 → Int32 → Int32 → Option (gb_G × Int32)} (hK88 : ∀ {a0 : gb_G} {a1 : Int32} {a2 : Int32} {a3 : Int32} {o : (gb_G × Int32)}, K88 a0 a1 a2 a3 = some o → gb_Fr (fun c k => c = 53 ∨ c = 55) a0 o.1) : ∀ (n : Nat) {g : gb_G} {y2 : Nat} {y3 : Int32} {y4 : Int32} {y5 : Int32} {y6 : Int32} {o : (gb_G × Int32)} (h : f_X4_tell_22 sh b1 K88 n g y2 y3 y4 y5 y6 = some o), gb_Fr (fun c k => c = 53 ∨ c = 55) g o.1 := by
  intro n
  induction n with
  | zero => intro g y2 y3 y4 y5 y6 o h; cases h
  | succ n ih =>
    intro g y2 y3 y4 y5 y6 o h
    rw [f_X4_tell_22] at h
    have Fg : gb_Fr (fun c k => c = 53 ∨ c = 55) g g := gb_Fr.rf
    rcases gb_ite_e h with h | h
    · exact gb_Fr.tr Fg (hK88 h)
    · rcases gb_ite_e h with h | h
      · obtain ⟨-, h⟩ := gb_ck_e h
        rcases gb_ite_e h with h | h
        · obtain ⟨r21, er21, h⟩ := gb_bd_e h
          have Fr21 := gb_Fr.tr Fg (gb_Fr.up (w_X5_run er21) (fun _ _ hw => Or.inl (hw)))
          rcases gb_ite_e h with h | h
          · obtain ⟨r23, er23, h⟩ := gb_bd_e h
            have Fr23 := gb_Fr.tr Fr21 (gb_Fr.up (w_X5_run er23) (fun _ _ hw => Or.inl (hw)))
            exact gb_Fr.tr Fr23 (w_X4_tell_82 (fun hh => ih hh) h)
          · exact gb_Fr.tr Fr21 (w_X4_tell_82 (fun hh => ih hh) h)
        · exact gb_Fr.tr Fg (w_X4_tell_82 (fun hh => ih hh) h)
      · exact gb_Fr.tr Fg (hK88 h)
set_option maxRecDepth 100000 in
set_option maxHeartbeats 4000000 in
theorem w_X4_tell {sh : List gb_Sh} {b1 : Nat} {q2 : Option Nat} {x3 : Int32} {x4 : Int32} {g : gb_G}  {o : (gb_G × Int32)} (h : f_X4_tell sh g b1 q2 x3 x4 = some o) : gb_Fr (fun c k => c = 53 ∨ c = 55) g o.1 := by
  unfold f_X4_tell at h
  have Fg : gb_Fr (fun c k => c = 53 ∨ c = 55) g g := gb_Fr.rf
  cases q2 with
  | none =>
    exact gb_Fr.tr Fg (w_X4_tell_88 h)
  | some p1 =>
    obtain ⟨-, h⟩ := gb_gdX7_e h
    obtain ⟨r18, er18, h⟩ := gb_bd_e h
    have Fr18 := gb_Fr.tr Fg (gb_Fr.up (w_X4_fillWords er18) (fun _ _ hw => Or.inr (hw)))
    exact gb_Fr.tr Fr18 (w_X4_tell_22 (fun hh => w_X4_tell_88 hh) _ h)
set_option maxRecDepth 100000 in
set_option maxHeartbeats 4000000 in
theorem w_X1_load_15 {sh : List gb_Sh} {b1 : Nat}  : ∀ (n : Nat) {g : gb_G} {y2 : Option Nat} {y3 : Int32} {o : (gb_G)} (h : f_X1_load_15 sh b1 n g y2 y3 = some o), gb_Fr (fun c k => c = 53 ∨ c = 55 ∨ c = 57 ∨ c = 58 ∨ c = 59 ∨ c = 60) g o := by
  intro n
  induction n with
  | zero => intro g y2 y3 o h; cases h
  | succ n ih =>
    intro g y2 y3 o h
    rw [f_X1_load_15] at h
    have Fg : gb_Fr (fun c k => c = 53 ∨ c = 55 ∨ c = 57 ∨ c = 58 ∨ c = 59 ∨ c = 60) g g := gb_Fr.rf
    rcases gb_ite_e h with h | h
    · cases h
      exact Fg
    · obtain ⟨r4, er4, h⟩ := gb_bd_e h
      have Fr4 := gb_Fr.tr Fg (gb_Fr.up (w_X0_sourceOf er4) (fun _ _ hw => hw.elim))
      obtain ⟨r6, er6, h⟩ := gb_bd_e h
      have Fr6 := gb_Fr.tr Fr4 (gb_Fr.up (w_X0_read er6) (fun _ _ hw => hw.elim))
      obtain ⟨-, h⟩ := gb_ck_e h
      obtain ⟨g9, eg9, h⟩ := gb_let_x h
      have Fg9 := gb_Fr.tr Fr6 (gb_Fr.pi (Or.inr (Or.inr (Or.inr (Or.inl (rfl))))) eg9)
      obtain ⟨r10, er10, h⟩ := gb_bd_e h
      have Fr10 := gb_Fr.tr Fg9 (gb_Fr.up (w_X0_read er10) (fun _ _ hw => hw.elim))
      obtain ⟨-, h⟩ := gb_ck_e h
      obtain ⟨g13, eg13, h⟩ := gb_let_x h
      have Fg13 := gb_Fr.tr Fr10 (gb_Fr.pi (Or.inr (Or.inr (Or.inr (Or.inr (Or.inl (rfl)))))) eg13)
      obtain ⟨r14, er14, h⟩ := gb_bd_e h
      have Fr14 := gb_Fr.tr Fg13 (gb_Fr.up (w_X4_tell er14) (fun _ _ hw => hw.elim (fun h0 => Or.inl (h0)) (fun h0 => Or.inr (Or.inl (h0)))))
      obtain ⟨-, h⟩ := gb_ck_e h
      obtain ⟨g17, eg17, h⟩ := gb_let_x h
      have Fg17 := gb_Fr.tr Fr14 (gb_Fr.pi (Or.inr (Or.inr (Or.inr (Or.inr (Or.inr (rfl)))))) eg17)
      exact gb_Fr.tr Fg17 (ih h)
set_option maxRecDepth 100000 in
set_option maxHeartbeats 4000000 in
theorem w_X1_load {sh : List gb_Sh} {b1 : Nat} {q2 : Option Nat} {g : gb_G}  {o : (gb_G)} (h : f_X1_load sh g b1 q2 = some o) : gb_Fr (fun c k => c = 53 ∨ c = 55 ∨ c = 57 ∨ c = 58 ∨ c = 59 ∨ c = 60) g o := by
  unfold f_X1_load at h
  have Fg : gb_Fr (fun c k => c = 53 ∨ c = 55 ∨ c = 57 ∨ c = 58 ∨ c = 59 ∨ c = 60) g g := gb_Fr.rf
  obtain ⟨r1, er1, h⟩ := gb_bd_e h
  have Fr1 := gb_Fr.tr Fg (gb_Fr.up (w_J9_min_7cf53 er1) (fun _ _ hw => hw.elim))
  obtain ⟨g3, eg3, h⟩ := gb_let_x h
  have Fg3 := gb_Fr.tr Fr1 (gb_Fr.pi (Or.inr (Or.inr (Or.inl (rfl)))) eg3)
  exact gb_Fr.tr Fg3 (w_X1_load_15 _ h)
set_option maxRecDepth 100000 in
set_option maxHeartbeats 4000000 in
theorem w_X1_countOfAll_4 {sh : List gb_Sh}  : ∀ (n : Nat) {g : gb_G} {y1 : Int32} {y2 : Int32} {o : (gb_G × Int32)} (h : f_X1_countOfAll_4 sh n g y1 y2 = some o), gb_Fr (fun _ _ => False) g o.1 := by
  intro n
  induction n with
  | zero => intro g y1 y2 o h; cases h
  | succ n ih =>
    intro g y1 y2 o h
    rw [f_X1_countOfAll_4] at h
    have Fg : gb_Fr (fun _ _ => False) g g := gb_Fr.rf
    rcases gb_ite_e h with h | h
    · cases h
      exact Fg
    · obtain ⟨-, h⟩ := gb_ck_e h
      exact gb_Fr.tr Fg (ih h)
set_option maxRecDepth 100000 in
set_option maxHeartbeats 4000000 in
theorem w_X1_countOfAll {sh : List gb_Sh} {g : gb_G}  {o : (gb_G × Int32)} (h : f_X1_countOfAll sh g = some o) : gb_Fr (fun _ _ => False) g o.1 := by
  unfold f_X1_countOfAll at h
  have Fg : gb_Fr (fun _ _ => False) g g := gb_Fr.rf
  exact gb_Fr.tr Fg (w_X1_countOfAll_4 _ h)
set_option maxRecDepth 100000 in
set_option maxHeartbeats 4000000 in
theorem w_X1_outermost_59 {sh : List gb_Sh} {a1 : Nat} {a2 : Nat} {K6 : gb_G → Int32 → Int32 → Int32 → Option (gb_G × Int32)} {y3 : Int32} {y4 : Int32} {y5 : Int32} {g : gb_G} (hK6 : ∀ {a0 : gb_G} {a1 : Int32} {a2 : Int32} {a3 : Int32} {o : (gb_G × Int32)}, K6 a0 a1 a2 a3 = some o → gb_Fr (fun _ _ => False) a0 o.1) {o : (gb_G × Int32)} (h : f_X1_outermost_59 sh a1 a2 K6 g y3 y4 y5 = some o) : gb_Fr (fun _ _ => False) g o.1 := by
  unfold f_X1_outermost_59 at h
  have Fg : gb_Fr (fun _ _ => False) g g := gb_Fr.rf
  exact gb_Fr.tr Fg (hK6 h)
set_option maxRecDepth 100000 in
set_option maxHeartbeats 4000000 in
theorem w_X1_outermost_55 {sh : List gb_Sh} {a1 : Nat} {a2 : Nat} {K59 : gb_G → Int32 → Int32 → Int32 → Option (gb_G × Int32)} {y3 : Int32} {y5 : Int32} {g : gb_G} (hK59 : ∀ {a0 : gb_G} {a1 : Int32} {a2 : Int32} {a3 : Int32} {o : (gb_G × Int32)}, K59 a0 a1 a2 a3 = some o → gb_Fr (fun _ _ => False) a0 o.1) {o : (gb_G × Int32)} (h : f_X1_outermost_55 sh a1 a2 K59 g y3 y5 = some o) : gb_Fr (fun _ _ => False) g o.1 := by
  unfold f_X1_outermost_55 at h
  have Fg : gb_Fr (fun _ _ => False) g g := gb_Fr.rf
  exact gb_Fr.tr Fg (hK59 h)
set_option maxRecDepth 100000 in
set_option maxHeartbeats 4000000 in
theorem w_X1_outermost_6 {sh : List gb_Sh} {a1 : Nat} {a2 : Nat}  : ∀ (n : Nat) {g : gb_G} {y3 : Int32} {y4 : Int32} {y5 : Int32} {o : (gb_G × Int32)} (h : f_X1_outermost_6 sh a1 a2 n g y3 y4 y5 = some o), gb_Fr (fun _ _ => False) g o.1 := by
  intro n
  induction n with
  | zero => intro g y3 y4 y5 o h; cases h
  | succ n ih =>
    intro g y3 y4 y5 o h
    rw [f_X1_outermost_6] at h
    have Fg : gb_Fr (fun _ _ => False) g g := gb_Fr.rf
    rcases gb_ite_e h with h | h
    · cases h
      exact Fg
    · obtain ⟨-, h⟩ := gb_ck_e h
      rcases gb_ite_e h with h | h
      · exact gb_Fr.tr Fg (w_X1_outermost_59 (fun hh => ih hh) h)
      · rcases gb_ite_e h with h | h
        · exact gb_Fr.tr Fg (w_X1_outermost_55 (fun hh => w_X1_outermost_59 (fun hh => ih hh) hh) h)
        · obtain ⟨-, h⟩ := gb_ck_e h
          obtain ⟨-, h⟩ := gb_ck_e h
          obtain ⟨-, h⟩ := gb_ck_e h
          obtain ⟨-, h⟩ := gb_ck_e h
          rcases gb_ite_e h with h | h
          · exact gb_Fr.tr Fg (w_X1_outermost_59 (fun hh => ih hh) h)
          · exact gb_Fr.tr Fg (w_X1_outermost_55 (fun hh => w_X1_outermost_59 (fun hh => ih hh) hh) h)
set_option maxRecDepth 100000 in
set_option maxHeartbeats 4000000 in
theorem w_X1_outermost {sh : List gb_Sh} {a1 : Nat} {a2 : Nat} {x3 : Int32} {g : gb_G}  {o : (gb_G × Int32)} (h : f_X1_outermost sh g a1 a2 x3 = some o) : gb_Fr (fun _ _ => False) g o.1 := by
  unfold f_X1_outermost at h
  have Fg : gb_Fr (fun _ _ => False) g g := gb_Fr.rf
  exact gb_Fr.tr Fg (w_X1_outermost_6 _ h)
set_option maxRecDepth 100000 in
set_option maxHeartbeats 4000000 in
theorem w_X1_weighed_5 {sh : List gb_Sh} {a1 : Nat}  : ∀ (n : Nat) {g : gb_G} {y2 : Int64} {y4 : Int32} {o : (gb_G × Int64)} (h : f_X1_weighed_5 sh a1 n g y2 y4 = some o), gb_Fr (fun _ _ => False) g o.1 := by
  intro n
  induction n with
  | zero => intro g y2 y4 o h; cases h
  | succ n ih =>
    intro g y2 y4 o h
    rw [f_X1_weighed_5] at h
    have Fg : gb_Fr (fun _ _ => False) g g := gb_Fr.rf
    rcases gb_ite_e h with h | h
    · cases h
      exact Fg
    · obtain ⟨-, h⟩ := gb_ck_e h
      obtain ⟨-, h⟩ := gb_ck_e h
      exact gb_Fr.tr Fg (ih h)
set_option maxRecDepth 100000 in
set_option maxHeartbeats 4000000 in
theorem w_X1_weighed {sh : List gb_Sh} {a1 : Nat} {g : gb_G}  {o : (gb_G × Int64)} (h : f_X1_weighed sh g a1 = some o) : gb_Fr (fun _ _ => False) g o.1 := by
  unfold f_X1_weighed at h
  have Fg : gb_Fr (fun _ _ => False) g g := gb_Fr.rf
  exact gb_Fr.tr Fg (w_X1_weighed_5 _ h)
set_option maxRecDepth 100000 in
set_option maxHeartbeats 4000000 in
theorem w_J9_abs_067f4 {sh : List gb_Sh} {x1 : Int64} {g : gb_G}  {o : (gb_G × Int64)} (h : f_J9_abs_067f4 sh g x1 = some o) : gb_Fr (fun _ _ => False) g o.1 := by
  unfold f_J9_abs_067f4 at h
  have Fg : gb_Fr (fun _ _ => False) g g := gb_Fr.rf
  rcases gb_ite_e h with h | h
  · cases h
    exact Fg
  · cases h
    exact Fg
set_option maxRecDepth 100000 in
set_option maxHeartbeats 4000000 in
theorem w_X2_commonDivisor_9 {sh : List gb_Sh}  : ∀ (n : Nat) {g : gb_G} {y4 : Int64} {y6 : Int64} {y8 : Int32} {o : (gb_G × Int64)} (h : f_X2_commonDivisor_9 sh n g y4 y6 y8 = some o), gb_Fr (fun _ _ => False) g o.1 := by
  intro n
  induction n with
  | zero => intro g y4 y6 y8 o h; cases h
  | succ n ih =>
    intro g y4 y6 y8 o h
    rw [f_X2_commonDivisor_9] at h
    have Fg : gb_Fr (fun _ _ => False) g g := gb_Fr.rf
    rcases gb_ite_e h with h | h
    · cases h
      exact Fg
    · rcases gb_ite_e h with h | h
      · cases h
        exact Fg
      · obtain ⟨-, h⟩ := gb_nzl_e h
        exact gb_Fr.tr Fg (ih h)
set_option maxRecDepth 100000 in
set_option maxHeartbeats 4000000 in
theorem w_X2_commonDivisor {sh : List gb_Sh} {x1 : Int64} {x2 : Int64} {g : gb_G}  {o : (gb_G × Int64)} (h : f_X2_commonDivisor sh g x1 x2 = some o) : gb_Fr (fun _ _ => False) g o.1 := by
  unfold f_X2_commonDivisor at h
  have Fg : gb_Fr (fun _ _ => False) g g := gb_Fr.rf
  exact gb_Fr.tr Fg (w_X2_commonDivisor_9 _ h)
set_option maxRecDepth 100000 in
set_option maxHeartbeats 4000000 in
theorem w_X2_put_26 {sh : List gb_Sh} {b : Nat} {g : gb_G}  {o : (gb_G)} (h : f_X2_put_26 sh b g = some o) : gb_Fr (fun c k => (c = b ∧ k = 0) ∨ (c = b ∧ k = 1)) g o := by
  unfold f_X2_put_26 at h
  have Fg : gb_Fr (fun c k => (c = b ∧ k = 0) ∨ (c = b ∧ k = 1)) g g := gb_Fr.rf
  obtain ⟨g7, eg7, h⟩ := gb_let_x h
  have Fg7 := gb_Fr.tr Fg (gb_Fr.pj (Or.inl (⟨rfl, rfl⟩)) eg7)
  obtain ⟨g8, eg8, h⟩ := gb_let_x h
  have Fg8 := gb_Fr.tr Fg7 (gb_Fr.pj (Or.inr (⟨rfl, rfl⟩)) eg8)
  cases h
  exact Fg8
set_option maxRecDepth 100000 in
set_option maxHeartbeats 4000000 in
theorem w_X2_put_50 {sh : List gb_Sh} {b : Nat} {y1 : Int64} {y3 : Int64} {y5 : Int64} {z0 : Int64} {g : gb_G}  {o : (gb_G)} (h : f_X2_put_50 sh b g y1 y3 y5 z0 = some o) : gb_Fr (fun c k => (c = b ∧ k = 0) ∨ (c = b ∧ k = 1)) g o := by
  unfold f_X2_put_50 at h
  have Fg : gb_Fr (fun c k => (c = b ∧ k = 0) ∨ (c = b ∧ k = 1)) g g := gb_Fr.rf
  obtain ⟨-, h⟩ := gb_nzl_e h
  obtain ⟨g10, eg10, h⟩ := gb_let_x h
  have Fg10 := gb_Fr.tr Fg (gb_Fr.pj (Or.inl (⟨rfl, rfl⟩)) eg10)
  obtain ⟨-, h⟩ := gb_nzl_e h
  obtain ⟨g12, eg12, h⟩ := gb_let_x h
  have Fg12 := gb_Fr.tr Fg10 (gb_Fr.pj (Or.inr (⟨rfl, rfl⟩)) eg12)
  cases h
  exact Fg12
set_option maxRecDepth 100000 in
set_option maxHeartbeats 4000000 in
theorem w_X2_put {sh : List gb_Sh} {b : Nat} {x1 : Int64} {x2 : Int64} {g : gb_G}  {o : (gb_G)} (h : f_X2_put sh g b x1 x2 = some o) : gb_Fr (fun c k => (c = b ∧ k = 0) ∨ (c = b ∧ k = 1)) g o := by
  unfold f_X2_put at h
  have Fg : gb_Fr (fun c k => (c = b ∧ k = 0) ∨ (c = b ∧ k = 1)) g g := gb_Fr.rf
  obtain ⟨r1, er1, h⟩ := gb_bd_e h
  have Fr1 := gb_Fr.tr Fg (gb_Fr.up (w_J9_abs_067f4 er1) (fun _ _ hw => hw.elim))
  obtain ⟨r3, er3, h⟩ := gb_bd_e h
  have Fr3 := gb_Fr.tr Fr1 (gb_Fr.up (w_J9_abs_067f4 er3) (fun _ _ hw => hw.elim))
  obtain ⟨r5, er5, h⟩ := gb_bd_e h
  have Fr5 := gb_Fr.tr Fr3 (gb_Fr.up (w_X2_commonDivisor er5) (fun _ _ hw => hw.elim))
  rcases gb_ite_e h with h | h
  · exact gb_Fr.tr Fr5 (w_X2_put_26 h)
  · rcases gb_ite_e h with h | h
    · exact gb_Fr.tr Fr5 (w_X2_put_26 h)
    · rcases gb_ite_e h with h | h
      · exact gb_Fr.tr Fr5 (w_X2_put_50 h)
      · exact gb_Fr.tr Fr5 (w_X2_put_50 h)
set_option maxRecDepth 100000 in
set_option maxHeartbeats 4000000 in
theorem w_X2_add {sh : List gb_Sh} {b : Nat} {x1 : Int64} {x2 : Int64} {g : gb_G}  {o : (gb_G)} (h : f_X2_add sh g b x1 x2 = some o) : gb_Fr (fun c k => (c = b ∧ k = 0) ∨ (c = b ∧ k = 1)) g o := by
  unfold f_X2_add at h
  have Fg : gb_Fr (fun c k => (c = b ∧ k = 0) ∨ (c = b ∧ k = 1)) g g := gb_Fr.rf
  obtain ⟨r1, er1, h⟩ := gb_bd_e h
  have Fr1 := gb_Fr.tr Fg (gb_Fr.up (w_X2_put er1) (fun _ _ hw => hw.elim (fun h0 => Or.inl (h0)) (fun h0 => Or.inr (h0))))
  cases h
  exact Fr1
set_option maxRecDepth 100000 in
set_option maxHeartbeats 4000000 in
theorem w_X2_divide {sh : List gb_Sh} {b : Nat} {x1 : Int64} {g : gb_G}  {o : (gb_G)} (h : f_X2_divide sh g b x1 = some o) : gb_Fr (fun c k => (c = b ∧ k = 0) ∨ (c = b ∧ k = 1)) g o := by
  unfold f_X2_divide at h
  have Fg : gb_Fr (fun c k => (c = b ∧ k = 0) ∨ (c = b ∧ k = 1)) g g := gb_Fr.rf
  obtain ⟨r1, er1, h⟩ := gb_bd_e h
  have Fr1 := gb_Fr.tr Fg (gb_Fr.up (w_X2_put er1) (fun _ _ hw => hw.elim (fun h0 => Or.inl (h0)) (fun h0 => Or.inr (h0))))
  cases h
  exact Fr1
set_option maxRecDepth 100000 in
set_option maxHeartbeats 4000000 in
theorem w_X1_reckon_108 {sh : List gb_Sh} {a2 : Nat} {a3 : Nat} {b4 : Nat} {K65 : gb_G → Int32 → Option (gb_G)} {y5 : Int32} {g : gb_G} (hK65 : ∀ {a0 : gb_G} {a1 : Int32} {o : (gb_G)}, K65 a0 a1 = some o → gb_Fr (fun c k => (c = b4 ∧ k = 0) ∨ (c = b4 ∧ k = 1)) a0 o) {o : (gb_G)} (h : f_X1_reckon_108 sh a2 a3 b4 K65 g y5 = some o) : gb_Fr (fun c k => (c = b4 ∧ k = 0) ∨ (c = b4 ∧ k = 1)) g o := by
  unfold f_X1_reckon_108 at h
  have Fg : gb_Fr (fun c k => (c = b4 ∧ k = 0) ∨ (c = b4 ∧ k = 1)) g g := gb_Fr.rf
  exact gb_Fr.tr Fg (hK65 h)
set_option maxRecDepth 100000 in
set_option maxHeartbeats 4000000 in
theorem w_X1_reckon_65 {sh : List gb_Sh} {a2 : Nat} {a3 : Nat} {b4 : Nat}  : ∀ (n : Nat) {g : gb_G} {y5 : Int32} {o : (gb_G)} (h : f_X1_reckon_65 sh a2 a3 b4 n g y5 = some o), gb_Fr (fun c k => (c = b4 ∧ k = 0) ∨ (c = b4 ∧ k = 1)) g o := by
  intro n
  induction n with
  | zero => intro g y5 o h; cases h
  | succ n ih =>
    intro g y5 o h
    rw [f_X1_reckon_65] at h
    have Fg : gb_Fr (fun c k => (c = b4 ∧ k = 0) ∨ (c = b4 ∧ k = 1)) g g := gb_Fr.rf
    rcases gb_ite_e h with h | h
    · obtain ⟨r13, er13, h⟩ := gb_bd_e h
      have Fr13 := gb_Fr.tr Fg (gb_Fr.up (w_X1_countOfAll er13) (fun _ _ hw => hw.elim))
      obtain ⟨r15, er15, h⟩ := gb_bd_e h
      have Fr15 := gb_Fr.tr Fr13 (gb_Fr.up (w_X2_divide er15) (fun _ _ hw => hw.elim (fun h0 => Or.inl (h0)) (fun h0 => Or.inr (h0))))
      cases h
      exact Fr15
    · obtain ⟨-, h⟩ := gb_ck_e h
      rcases gb_ite_e h with h | h
      · exact gb_Fr.tr Fg (w_X1_reckon_108 (fun hh => ih hh) h)
      · obtain ⟨-, h⟩ := gb_ck_e h
        obtain ⟨-, h⟩ := gb_ck_e h
        obtain ⟨-, h⟩ := gb_ck_e h
        obtain ⟨r21, er21, h⟩ := gb_bd_e h
        have Fr21 := gb_Fr.tr Fg (gb_Fr.up (w_X2_add er21) (fun _ _ hw => hw.elim (fun h0 => Or.inl (h0)) (fun h0 => Or.inr (h0))))
        exact gb_Fr.tr Fr21 (w_X1_reckon_108 (fun hh => ih hh) h)
set_option maxRecDepth 100000 in
set_option maxHeartbeats 4000000 in
theorem w_X1_reckon_140 {sh : List gb_Sh} {a2 : Nat} {a3 : Nat} {b4 : Nat} {z0 : Int32} {g : gb_G}  {o : (gb_G)} (h : f_X1_reckon_140 sh a2 a3 b4 g z0 = some o) : gb_Fr (fun c k => (c = b4 ∧ k = 0) ∨ (c = b4 ∧ k = 1)) g o := by
  unfold f_X1_reckon_140 at h
  have Fg : gb_Fr (fun c k => (c = b4 ∧ k = 0) ∨ (c = b4 ∧ k = 1)) g g := gb_Fr.rf
  obtain ⟨r23, er23, h⟩ := gb_bd_e h
  have Fr23 := gb_Fr.tr Fg (gb_Fr.up (w_X1_outermost er23) (fun _ _ hw => hw.elim))
  obtain ⟨r25, er25, h⟩ := gb_bd_e h
  have Fr25 := gb_Fr.tr Fr23 (gb_Fr.up (w_X10_within er25) (fun _ _ hw => hw.elim))
  rcases gb_ite_e h with h | h
  · cases h
    exact Fr25
  · obtain ⟨-, h⟩ := gb_ck_e h
    obtain ⟨-, h⟩ := gb_ck_e h
    obtain ⟨r29, er29, h⟩ := gb_bd_e h
    have Fr29 := gb_Fr.tr Fr25 (gb_Fr.up (w_X2_put er29) (fun _ _ hw => hw.elim (fun h0 => Or.inl (h0)) (fun h0 => Or.inr (h0))))
    cases h
    exact Fr29
set_option maxRecDepth 100000 in
set_option maxHeartbeats 4000000 in
theorem w_X1_reckon {sh : List gb_Sh} {x1 : Int32} {a2 : Nat} {a3 : Nat} {b4 : Nat} {g : gb_G}  {o : (gb_G)} (h : f_X1_reckon sh g x1 a2 a3 b4 = some o) : gb_Fr (fun c k => (c = b4 ∧ k = 0) ∨ (c = b4 ∧ k = 1)) g o := by
  unfold f_X1_reckon at h
  have Fg : gb_Fr (fun c k => (c = b4 ∧ k = 0) ∨ (c = b4 ∧ k = 1)) g g := gb_Fr.rf
  obtain ⟨r1, er1, h⟩ := gb_bd_e h
  have Fr1 := gb_Fr.tr Fg (gb_Fr.up (w_X2_put er1) (fun _ _ hw => hw.elim (fun h0 => Or.inl (h0)) (fun h0 => Or.inr (h0))))
  obtain ⟨r3, er3, h⟩ := gb_bd_e h
  have Fr3 := gb_Fr.tr Fr1 (gb_Fr.up (w_X1_countOfAll er3) (fun _ _ hw => hw.elim))
  rcases gb_ite_e h with h | h
  · cases h
    exact Fr3
  · rcases gb_ite_e h with h | h
    · obtain ⟨r6, er6, h⟩ := gb_bd_e h
      have Fr6 := gb_Fr.tr Fr3 (gb_Fr.up (w_X1_weighed er6) (fun _ _ hw => hw.elim))
      obtain ⟨r8, er8, h⟩ := gb_bd_e h
      have Fr8 := gb_Fr.tr Fr6 (gb_Fr.up (w_X1_weighed er8) (fun _ _ hw => hw.elim))
      obtain ⟨r10, er10, h⟩ := gb_bd_e h
      have Fr10 := gb_Fr.tr Fr8 (gb_Fr.up (w_X2_put er10) (fun _ _ hw => hw.elim (fun h0 => Or.inl (h0)) (fun h0 => Or.inr (h0))))
      cases h
      exact Fr10
    · rcases gb_ite_e h with h | h
      · exact gb_Fr.tr Fr3 (w_X1_reckon_65 _ h)
      · rcases gb_ite_e h with h | h
        · exact gb_Fr.tr Fr3 (w_X1_reckon_140 h)
        · exact gb_Fr.tr Fr3 (w_X1_reckon_140 h)
set_option maxRecDepth 100000 in
set_option maxHeartbeats 4000000 in
theorem w_X1_byRule {sh : List gb_Sh} {x1 : Int32} {g : gb_G}  {o : (gb_G)} (h : f_X1_byRule sh g x1 = some o) : gb_Fr (fun c k => (c = 61 ∧ k = 0) ∨ (c = 61 ∧ k = 1)) g o := by
  unfold f_X1_byRule at h
  have Fg : gb_Fr (fun c k => (c = 61 ∧ k = 0) ∨ (c = 61 ∧ k = 1)) g g := gb_Fr.rf
  obtain ⟨r1, er1, h⟩ := gb_bd_e h
  have Fr1 := gb_Fr.tr Fg (gb_Fr.up (w_X1_reckon er1) (fun _ _ hw => hw.elim (fun h0 => Or.inl (h0)) (fun h0 => Or.inr (h0))))
  cases h
  exact Fr1
set_option maxRecDepth 100000 in
set_option maxHeartbeats 4000000 in
theorem w_X2_multiply {sh : List gb_Sh} {b : Nat} {b1 : Nat} {g : gb_G}  {o : (gb_G)} (h : f_X2_multiply sh g b b1 = some o) : gb_Fr (fun c k => (c = b ∧ k = 0) ∨ (c = b ∧ k = 1)) g o := by
  unfold f_X2_multiply at h
  have Fg : gb_Fr (fun c k => (c = b ∧ k = 0) ∨ (c = b ∧ k = 1)) g g := gb_Fr.rf
  obtain ⟨r1, er1, h⟩ := gb_bd_e h
  have Fr1 := gb_Fr.tr Fg (gb_Fr.up (w_X2_put er1) (fun _ _ hw => hw.elim (fun h0 => Or.inl (h0)) (fun h0 => Or.inr (h0))))
  cases h
  exact Fr1
set_option maxRecDepth 100000 in
set_option maxHeartbeats 4000000 in
theorem w_X1_turnedByRule {sh : List gb_Sh} {x1 : Int32} {g : gb_G}  {o : (gb_G)} (h : f_X1_turnedByRule sh g x1 = some o) : gb_Fr (fun c k => (c = 61 ∧ k = 0) ∨ (c = 61 ∧ k = 1) ∨ (c = 62 ∧ k = 0) ∨ (c = 62 ∧ k = 1)) g o := by
  unfold f_X1_turnedByRule at h
  have Fg : gb_Fr (fun c k => (c = 61 ∧ k = 0) ∨ (c = 61 ∧ k = 1) ∨ (c = 62 ∧ k = 0) ∨ (c = 62 ∧ k = 1)) g g := gb_Fr.rf
  obtain ⟨r1, er1, h⟩ := gb_bd_e h
  have Fr1 := gb_Fr.tr Fg (gb_Fr.up (w_X1_reckon er1) (fun _ _ hw => hw.elim (fun h0 => Or.inl (h0)) (fun h0 => Or.inr (Or.inl (h0)))))
  obtain ⟨r3, er3, h⟩ := gb_bd_e h
  have Fr3 := gb_Fr.tr Fr1 (gb_Fr.up (w_X1_reckon er3) (fun _ _ hw => hw.elim (fun h0 => Or.inr (Or.inr (Or.inl (h0)))) (fun h0 => Or.inr (Or.inr (Or.inr (h0))))))
  obtain ⟨r5, er5, h⟩ := gb_bd_e h
  have Fr5 := gb_Fr.tr Fr3 (gb_Fr.up (w_X2_multiply er5) (fun _ _ hw => hw.elim (fun h0 => Or.inl (h0)) (fun h0 => Or.inr (Or.inl (h0)))))
  cases h
  exact Fr5
set_option maxRecDepth 100000 in
set_option maxHeartbeats 4000000 in
theorem w_X1_cutTimes {sh : List gb_Sh} {x1 : Int32} {g : gb_G}  {o : (gb_G × Int32)} (h : f_X1_cutTimes sh g x1 = some o) : gb_Fr (fun _ _ => False) g o.1 := by
  unfold f_X1_cutTimes at h
  have Fg : gb_Fr (fun _ _ => False) g g := gb_Fr.rf
  obtain ⟨r1, er1, h⟩ := gb_bd_e h
  have Fr1 := gb_Fr.tr Fg (gb_Fr.up (w_X1_weighed er1) (fun _ _ hw => hw.elim))
  rcases gb_ite_e h with h | h
  · cases h
    exact Fr1
  · obtain ⟨r3, er3, h⟩ := gb_bd_e h
    have Fr3 := gb_Fr.tr Fr1 (gb_Fr.up (w_X1_weighed er3) (fun _ _ hw => hw.elim))
    obtain ⟨-, h⟩ := gb_nzl_e h
    cases h
    exact Fr3
set_option maxRecDepth 100000 in
set_option maxHeartbeats 4000000 in
theorem w_X1_hundredths {sh : List gb_Sh} {g : gb_G}  {o : (gb_G × Int32)} (h : f_X1_hundredths sh g = some o) : gb_Fr (fun _ _ => False) g o.1 := by
  unfold f_X1_hundredths at h
  have Fg : gb_Fr (fun _ _ => False) g g := gb_Fr.rf
  obtain ⟨r1, er1, h⟩ := gb_bd_e h
  have Fr1 := gb_Fr.tr Fg (gb_Fr.up (w_X1_countOfAll er1) (fun _ _ hw => hw.elim))
  rcases gb_ite_e h with h | h
  · cases h
    exact Fr1
  · obtain ⟨r3, er3, h⟩ := gb_bd_e h
    have Fr3 := gb_Fr.tr Fr1 (gb_Fr.up (w_X1_cutTimes er3) (fun _ _ hw => hw.elim))
    cases h
    exact Fr3
set_option maxRecDepth 100000 in
set_option maxHeartbeats 4000000 in
theorem w_X1_thousandths {sh : List gb_Sh} {g : gb_G}  {o : (gb_G × Int32)} (h : f_X1_thousandths sh g = some o) : gb_Fr (fun _ _ => False) g o.1 := by
  unfold f_X1_thousandths at h
  have Fg : gb_Fr (fun _ _ => False) g g := gb_Fr.rf
  obtain ⟨r1, er1, h⟩ := gb_bd_e h
  have Fr1 := gb_Fr.tr Fg (gb_Fr.up (w_X1_cutTimes er1) (fun _ _ hw => hw.elim))
  cases h
  exact Fr1
set_option maxRecDepth 100000 in
set_option maxHeartbeats 4000000 in
theorem w_X2_side {sh : List gb_Sh} {b : Nat} {x1 : Int32} {g : gb_G}  {o : (gb_G × Int64)} (h : f_X2_side sh g b x1 = some o) : gb_Fr (fun _ _ => False) g o.1 := by
  unfold f_X2_side at h
  have Fg : gb_Fr (fun _ _ => False) g g := gb_Fr.rf
  rcases gb_ite_e h with h | h
  · cases h
    exact Fg
  · cases h
    exact Fg
set_option maxRecDepth 100000 in
set_option maxHeartbeats 4000000 in
theorem w_X3_clear {sh : List gb_Sh} {b : Nat} {g : gb_G}  {o : (gb_G)} (h : f_X3_clear sh g b = some o) : gb_Fr (fun c k => (c = b ∧ k = 0)) g o := by
  unfold f_X3_clear at h
  have Fg : gb_Fr (fun c k => (c = b ∧ k = 0)) g g := gb_Fr.rf
  obtain ⟨g1, eg1, h⟩ := gb_let_x h
  have Fg1 := gb_Fr.tr Fg (gb_Fr.pi (⟨rfl, rfl⟩) eg1)
  cases h
  exact Fg1
set_option maxRecDepth 100000 in
set_option maxHeartbeats 4000000 in
theorem w_X3_copyFrom {sh : List gb_Sh} {b : Nat} {b1 : Nat} {g : gb_G}  {o : (gb_G)} (h : f_X3_copyFrom sh g b b1 = some o) : gb_Fr (fun c k => (c = b ∧ k = 0) ∨ c = b + 1 ∨ c = b + 2 ∨ c = b + 3 ∨ c = b + 4) g o := by
  unfold f_X3_copyFrom at h
  have Fg : gb_Fr (fun c k => (c = b ∧ k = 0) ∨ c = b + 1 ∨ c = b + 2 ∨ c = b + 3 ∨ c = b + 4) g g := gb_Fr.rf
  obtain ⟨g1, eg1, h⟩ := gb_let_x h
  have Fg1 := gb_Fr.tr Fg (gb_Fr.pi (Or.inl (⟨rfl, rfl⟩)) eg1)
  obtain ⟨-, h⟩ := gb_cp_e h
  obtain ⟨g3, eg3, h⟩ := gb_let_x h
  have Fg3 := gb_Fr.tr Fg1 (gb_Fr.pa (fun _ => Or.inr (Or.inl (rfl))) eg3)
  obtain ⟨-, h⟩ := gb_cp_e h
  obtain ⟨g5, eg5, h⟩ := gb_let_x h
  have Fg5 := gb_Fr.tr Fg3 (gb_Fr.pa (fun _ => Or.inr (Or.inr (Or.inl (rfl)))) eg5)
  obtain ⟨-, h⟩ := gb_cp_e h
  obtain ⟨g7, eg7, h⟩ := gb_let_x h
  have Fg7 := gb_Fr.tr Fg5 (gb_Fr.pa (fun _ => Or.inr (Or.inr (Or.inr (Or.inl (rfl))))) eg7)
  obtain ⟨-, h⟩ := gb_cp_e h
  obtain ⟨g9, eg9, h⟩ := gb_let_x h
  have Fg9 := gb_Fr.tr Fg7 (gb_Fr.pa (fun _ => Or.inr (Or.inr (Or.inr (Or.inr (rfl))))) eg9)
  cases h
  exact Fg9
set_option maxRecDepth 100000 in
set_option maxHeartbeats 4000000 in
theorem w_X3_dropOldest {sh : List gb_Sh} {b : Nat} {g : gb_G}  {o : (gb_G)} (h : f_X3_dropOldest sh g b = some o) : gb_Fr (fun c k => (c = b ∧ k = 0) ∨ c = b + 1 ∨ c = b + 2 ∨ c = b + 3 ∨ c = b + 4) g o := by
  unfold f_X3_dropOldest at h
  have Fg : gb_Fr (fun c k => (c = b ∧ k = 0) ∨ c = b + 1 ∨ c = b + 2 ∨ c = b + 3 ∨ c = b + 4) g g := gb_Fr.rf
  obtain ⟨-, h⟩ := gb_cp_e h
  obtain ⟨g2, eg2, h⟩ := gb_let_x h
  have Fg2 := gb_Fr.tr Fg (gb_Fr.pa (fun _ => Or.inr (Or.inl (rfl))) eg2)
  obtain ⟨-, h⟩ := gb_cp_e h
  obtain ⟨g4, eg4, h⟩ := gb_let_x h
  have Fg4 := gb_Fr.tr Fg2 (gb_Fr.pa (fun _ => Or.inr (Or.inr (Or.inl (rfl)))) eg4)
  obtain ⟨-, h⟩ := gb_cp_e h
  obtain ⟨g6, eg6, h⟩ := gb_let_x h
  have Fg6 := gb_Fr.tr Fg4 (gb_Fr.pa (fun _ => Or.inr (Or.inr (Or.inr (Or.inl (rfl))))) eg6)
  obtain ⟨-, h⟩ := gb_cp_e h
  obtain ⟨g8, eg8, h⟩ := gb_let_x h
  have Fg8 := gb_Fr.tr Fg6 (gb_Fr.pa (fun _ => Or.inr (Or.inr (Or.inr (Or.inr (rfl))))) eg8)
  obtain ⟨g9, eg9, h⟩ := gb_let_x h
  have Fg9 := gb_Fr.tr Fg8 (gb_Fr.pi (Or.inl (⟨rfl, rfl⟩)) eg9)
  cases h
  exact Fg9
set_option maxRecDepth 100000 in
set_option maxHeartbeats 4000000 in
theorem w_X3_remember_51 {sh : List gb_Sh} {b : Nat} {b3 : Nat}  : ∀ (n : Nat) {g : gb_G} {y4 : Int32} {o : (gb_G)} (h : f_X3_remember_51 sh b b3 n g y4 = some o), gb_Fr (fun c k => (c = b ∧ k = 0) ∨ c = b + 1 ∨ c = b + 2 ∨ c = b + 3 ∨ c = b + 4) g o := by
  intro n
  induction n with
  | zero => intro g y4 o h; cases h
  | succ n ih =>
    intro g y4 o h
    rw [f_X3_remember_51] at h
    have Fg : gb_Fr (fun c k => (c = b ∧ k = 0) ∨ c = b + 1 ∨ c = b + 2 ∨ c = b + 3 ∨ c = b + 4) g g := gb_Fr.rf
    rcases gb_ite_e h with h | h
    · obtain ⟨g9, eg9, h⟩ := gb_let_x h
      have Fg9 := gb_Fr.tr Fg (gb_Fr.pi (Or.inl (⟨rfl, rfl⟩)) eg9)
      cases h
      exact Fg9
    · obtain ⟨r10, er10, h⟩ := gb_bd_e h
      have Fr10 := gb_Fr.tr Fg (gb_Fr.up (w_X0_read er10) (fun _ _ hw => hw.elim))
      obtain ⟨-, h⟩ := gb_ck_e h
      obtain ⟨g13, eg13, h⟩ := gb_let_x h
      have Fg13 := gb_Fr.tr Fr10 (gb_Fr.pi (Or.inr (Or.inr (Or.inr (Or.inr (rfl))))) eg13)
      exact gb_Fr.tr Fg13 (ih h)
set_option maxRecDepth 100000 in
set_option maxHeartbeats 4000000 in
theorem w_X3_remember_13 {sh : List gb_Sh} {b : Nat} {b3 : Nat} {y1 : Int32} {y2 : Int32} {g : gb_G}  {o : (gb_G)} (h : f_X3_remember_13 sh b b3 g y1 y2 = some o) : gb_Fr (fun c k => (c = b ∧ k = 0) ∨ c = b + 1 ∨ c = b + 2 ∨ c = b + 3 ∨ c = b + 4) g o := by
  unfold f_X3_remember_13 at h
  have Fg : gb_Fr (fun c k => (c = b ∧ k = 0) ∨ c = b + 1 ∨ c = b + 2 ∨ c = b + 3 ∨ c = b + 4) g g := gb_Fr.rf
  obtain ⟨-, h⟩ := gb_ck_e h
  obtain ⟨g2, eg2, h⟩ := gb_let_x h
  have Fg2 := gb_Fr.tr Fg (gb_Fr.pi (Or.inr (Or.inl (rfl))) eg2)
  obtain ⟨-, h⟩ := gb_ck_e h
  obtain ⟨g4, eg4, h⟩ := gb_let_x h
  have Fg4 := gb_Fr.tr Fg2 (gb_Fr.pi (Or.inr (Or.inr (Or.inl (rfl)))) eg4)
  obtain ⟨r5, er5, h⟩ := gb_bd_e h
  have Fr5 := gb_Fr.tr Fg4 (gb_Fr.up (w_X0_read er5) (fun _ _ hw => hw.elim))
  obtain ⟨-, h⟩ := gb_ck_e h
  obtain ⟨g8, eg8, h⟩ := gb_let_x h
  have Fg8 := gb_Fr.tr Fr5 (gb_Fr.pi (Or.inr (Or.inr (Or.inr (Or.inl (rfl))))) eg8)
  exact gb_Fr.tr Fg8 (w_X3_remember_51 _ h)
set_option maxRecDepth 100000 in
set_option maxHeartbeats 4000000 in
theorem w_X3_remember {sh : List gb_Sh} {b : Nat} {x1 : Int32} {x2 : Int32} {b3 : Nat} {g : gb_G}  {o : (gb_G)} (h : f_X3_remember sh g b x1 x2 b3 = some o) : gb_Fr (fun c k => (c = b ∧ k = 0) ∨ c = b + 1 ∨ c = b + 2 ∨ c = b + 3 ∨ c = b + 4) g o := by
  unfold f_X3_remember at h
  have Fg : gb_Fr (fun c k => (c = b ∧ k = 0) ∨ c = b + 1 ∨ c = b + 2 ∨ c = b + 3 ∨ c = b + 4) g g := gb_Fr.rf
  rcases gb_ite_e h with h | h
  · exact gb_Fr.tr Fg (w_X3_remember_13 h)
  · obtain ⟨r14, er14, h⟩ := gb_bd_e h
    have Fr14 := gb_Fr.tr Fg (gb_Fr.up (w_X3_dropOldest er14) (fun _ _ hw => hw.elim (fun h0 => Or.inl (h0)) (fun h0 => h0.elim (fun h1 => Or.inr (Or.inl (h1))) (fun h1 => h1.elim (fun h2 => Or.inr (Or.inr (Or.inl (h2)))) (fun h2 => h2.elim (fun h3 => Or.inr (Or.inr (Or.inr (Or.inl (h3))))) (fun h3 => Or.inr (Or.inr (Or.inr (Or.inr (h3))))))))))
    exact gb_Fr.tr Fr14 (w_X3_remember_13 h)
set_option maxRecDepth 100000 in
set_option maxHeartbeats 4000000 in
theorem w_X3_takeBack_150 {sh : List gb_Sh} {b : Nat} {b1 : Nat} {g : gb_G}  {o : (gb_G × Int32)} (h : f_X3_takeBack_150 sh b b1 g = some o) : gb_Fr (fun c k => (c = b ∧ k = 0) ∨ c = b1 + 1 ∨ (c = b1 + 4 ∧ k = 0)) g o.1 := by
  unfold f_X3_takeBack_150 at h
  have Fg : gb_Fr (fun c k => (c = b ∧ k = 0) ∨ c = b1 + 1 ∨ (c = b1 + 4 ∧ k = 0)) g g := gb_Fr.rf
  obtain ⟨-, h⟩ := gb_ck_e h
  cases h
  exact Fg
set_option maxRecDepth 100000 in
set_option maxHeartbeats 4000000 in
theorem w_X3_takeBack_140 {sh : List gb_Sh} {b : Nat} {b1 : Nat} {K150 : gb_G → Option (gb_G × Int32)} {g : gb_G} (hK150 : ∀ {a0 : gb_G} {o : (gb_G × Int32)}, K150 a0 = some o → gb_Fr (fun c k => (c = b ∧ k = 0) ∨ c = b1 + 1 ∨ (c = b1 + 4 ∧ k = 0)) a0 o.1) {o : (gb_G × Int32)} (h : f_X3_takeBack_140 sh b b1 K150 g = some o) : gb_Fr (fun c k => (c = b ∧ k = 0) ∨ c = b1 + 1 ∨ (c = b1 + 4 ∧ k = 0)) g o.1 := by
  unfold f_X3_takeBack_140 at h
  have Fg : gb_Fr (fun c k => (c = b ∧ k = 0) ∨ c = b1 + 1 ∨ (c = b1 + 4 ∧ k = 0)) g g := gb_Fr.rf
  obtain ⟨g17, eg17, h⟩ := gb_let_x h
  have Fg17 := gb_Fr.tr Fg (gb_Fr.pi (Or.inr (Or.inr (⟨rfl, rfl⟩))) eg17)
  exact gb_Fr.tr Fg17 (hK150 h)
set_option maxRecDepth 100000 in
set_option maxHeartbeats 4000000 in
theorem w_X3_takeBack_100 {sh : List gb_Sh} {b : Nat} {b1 : Nat} {K150 : gb_G → Option (gb_G × Int32)} (hK150 : ∀ {a0 : gb_G} {o : (gb_G × Int32)}, K150 a0 = some o → gb_Fr (fun c k => (c = b ∧ k = 0) ∨ c = b1 + 1 ∨ (c = b1 + 4 ∧ k = 0)) a0 o.1) : ∀ (n : Nat) {g : gb_G} {y3 : Int32} {o : (gb_G × Int32)} (h : f_X3_takeBack_100 sh b b1 K150 n g y3 = some o), gb_Fr (fun c k => (c = b ∧ k = 0) ∨ c = b1 + 1 ∨ (c = b1 + 4 ∧ k = 0)) g o.1 := by
  intro n
  induction n with
  | zero => intro g y3 o h; cases h
  | succ n ih =>
    intro g y3 o h
    rw [f_X3_takeBack_100] at h
    have Fg : gb_Fr (fun c k => (c = b ∧ k = 0) ∨ c = b1 + 1 ∨ (c = b1 + 4 ∧ k = 0)) g g := gb_Fr.rf
    rcases gb_ite_e h with h | h
    · exact gb_Fr.tr Fg (w_X3_takeBack_140 (hK150) h)
    · rcases gb_ite_e h with h | h
      · exact gb_Fr.tr Fg (w_X3_takeBack_140 (hK150) h)
      · obtain ⟨-, h⟩ := gb_ck_e h
        obtain ⟨r19, er19, h⟩ := gb_bd_e h
        have Fr19 := gb_Fr.tr Fg (gb_Fr.up (w_X0_write er19) (fun _ _ hw => Or.inr (Or.inl (hw))))
        exact gb_Fr.tr Fr19 (ih h)
set_option maxRecDepth 100000 in
set_option maxHeartbeats 4000000 in
theorem w_X3_takeBack {sh : List gb_Sh} {b : Nat} {b1 : Nat} {g : gb_G}  {o : (gb_G × Int32)} (h : f_X3_takeBack sh g b b1 = some o) : gb_Fr (fun c k => (c = b ∧ k = 0) ∨ c = b1 + 1 ∨ (c = b1 + 4 ∧ k = 0)) g o.1 := by
  unfold f_X3_takeBack at h
  have Fg : gb_Fr (fun c k => (c = b ∧ k = 0) ∨ c = b1 + 1 ∨ (c = b1 + 4 ∧ k = 0)) g g := gb_Fr.rf
  obtain ⟨r1, er1, h⟩ := gb_bd_e h
  have Fr1 := gb_Fr.tr Fg (gb_Fr.up (w_J9_max_7cf53 er1) (fun _ _ hw => hw.elim))
  obtain ⟨g3, eg3, h⟩ := gb_let_x h
  have Fg3 := gb_Fr.tr Fr1 (gb_Fr.pi (Or.inl (⟨rfl, rfl⟩)) eg3)
  obtain ⟨-, h⟩ := gb_ck_e h
  obtain ⟨-, h⟩ := gb_ck_e h
  rcases gb_ite_e h with h | h
  · obtain ⟨r7, er7, h⟩ := gb_bd_e h
    have Fr7 := gb_Fr.tr Fg3 (gb_Fr.up (w_X0_write er7) (fun _ _ hw => Or.inr (Or.inl (hw))))
    exact gb_Fr.tr Fr7 (w_X3_takeBack_150 h)
  · rcases gb_ite_e h with h | h
    · obtain ⟨r11, er11, h⟩ := gb_bd_e h
      have Fr11 := gb_Fr.tr Fg3 (gb_Fr.up (w_X0_write er11) (fun _ _ hw => Or.inr (Or.inl (hw))))
      exact gb_Fr.tr Fr11 (w_X3_takeBack_150 h)
    · rcases gb_ite_e h with h | h
      · obtain ⟨-, h⟩ := gb_ck_e h
        obtain ⟨r15, er15, h⟩ := gb_bd_e h
        have Fr15 := gb_Fr.tr Fg3 (gb_Fr.up (w_X0_write er15) (fun _ _ hw => Or.inr (Or.inl (hw))))
        exact gb_Fr.tr Fr15 (w_X3_takeBack_150 h)
      · exact gb_Fr.tr Fg3 (w_X3_takeBack_100 (fun hh => w_X3_takeBack_150 hh) _ h)
set_option maxRecDepth 100000 in
set_option maxHeartbeats 4000000 in
theorem w_X4_moveAll_47 {sh : List gb_Sh} {b1 : Nat}  : ∀ (n : Nat) {g : gb_G} {y3 : Int32} {o : (gb_G)} (h : f_X4_moveAll_47 sh b1 n g y3 = some o), gb_Fr (fun c k => c = 53 ∨ c = 55 ∨ c = 56 ∨ c = b1 + 1 ∨ (c = b1 + 4 ∧ k = 0)) g o := by
  intro n
  induction n with
  | zero => intro g y3 o h; cases h
  | succ n ih =>
    intro g y3 o h
    rw [f_X4_moveAll_47] at h
    have Fg : gb_Fr (fun c k => c = 53 ∨ c = 55 ∨ c = 56 ∨ c = b1 + 1 ∨ (c = b1 + 4 ∧ k = 0)) g g := gb_Fr.rf
    rcases gb_ite_e h with h | h
    · obtain ⟨g3, eg3, h⟩ := gb_let_x h
      have Fg3 := gb_Fr.tr Fg (gb_Fr.pi (Or.inr (Or.inr (Or.inr (Or.inr (⟨rfl, rfl⟩))))) eg3)
      cases h
      exact Fg3
    · obtain ⟨r4, er4, h⟩ := gb_bd_e h
      have Fr4 := gb_Fr.tr Fg (gb_Fr.up (w_X0_read er4) (fun _ _ hw => hw.elim))
      obtain ⟨-, h⟩ := gb_ck_e h
      obtain ⟨r7, er7, h⟩ := gb_bd_e h
      have Fr7 := gb_Fr.tr Fr4 (gb_Fr.up (w_X10_nearest er7) (fun _ _ hw => hw.elim))
      obtain ⟨r9, er9, h⟩ := gb_bd_e h
      have Fr9 := gb_Fr.tr Fr7 (gb_Fr.up (w_X0_write er9) (fun _ _ hw => Or.inr (Or.inr (Or.inr (Or.inl (hw))))))
      exact gb_Fr.tr Fr9 (ih h)
set_option maxRecDepth 100000 in
set_option maxHeartbeats 4000000 in
theorem w_X4_moveAll_38 {sh : List gb_Sh} {b1 : Nat} {K7 : gb_G → Option Nat → Int32 → Option (gb_G)} {y2 : Option Nat} {y3 : Int32} {z0 : Int32} {z1 : Int32} {g : gb_G} (hK7 : ∀ {a0 : gb_G} {a1 : Option Nat} {a2 : Int32} {o : (gb_G)}, K7 a0 a1 a2 = some o → gb_Fr (fun c k => c = 53 ∨ c = 55 ∨ c = 56 ∨ c = b1 + 1 ∨ (c = b1 + 4 ∧ k = 0)) a0 o) {o : (gb_G)} (h : f_X4_moveAll_38 sh b1 K7 g y2 y3 z0 z1 = some o) : gb_Fr (fun c k => c = 53 ∨ c = 55 ∨ c = 56 ∨ c = b1 + 1 ∨ (c = b1 + 4 ∧ k = 0)) g o := by
  unfold f_X4_moveAll_38 at h
  have Fg : gb_Fr (fun c k => c = 53 ∨ c = 55 ∨ c = 56 ∨ c = b1 + 1 ∨ (c = b1 + 4 ∧ k = 0)) g g := gb_Fr.rf
  obtain ⟨-, h⟩ := gb_ck_e h
  obtain ⟨g14, eg14, h⟩ := gb_let_x h
  have Fg14 := gb_Fr.tr Fg (gb_Fr.pi (Or.inr (Or.inr (Or.inl (rfl)))) eg14)
  exact gb_Fr.tr Fg14 (hK7 h)
set_option maxRecDepth 100000 in
set_option maxHeartbeats 4000000 in
theorem w_X4_moveAll_7 {sh : List gb_Sh} {b1 : Nat}  : ∀ (n : Nat) {g : gb_G} {y2 : Option Nat} {y3 : Int32} {o : (gb_G)} (h : f_X4_moveAll_7 sh b1 n g y2 y3 = some o), gb_Fr (fun c k => c = 53 ∨ c = 55 ∨ c = 56 ∨ c = b1 + 1 ∨ (c = b1 + 4 ∧ k = 0)) g o := by
  intro n
  induction n with
  | zero => intro g y2 y3 o h; cases h
  | succ n ih =>
    intro g y2 y3 o h
    rw [f_X4_moveAll_7] at h
    have Fg : gb_Fr (fun c k => c = 53 ∨ c = 55 ∨ c = 56 ∨ c = b1 + 1 ∨ (c = b1 + 4 ∧ k = 0)) g g := gb_Fr.rf
    rcases gb_ite_e h with h | h
    · exact gb_Fr.tr Fg (w_X4_moveAll_47 _ h)
    · obtain ⟨r11, er11, h⟩ := gb_bd_e h
      have Fr11 := gb_Fr.tr Fg (gb_Fr.up (w_X0_has er11) (fun _ _ hw => hw.elim))
      rcases gb_ite_e h with h | h
      · exact gb_Fr.tr Fr11 (w_X4_moveAll_38 (fun hh => ih hh) h)
      · obtain ⟨r15, er15, h⟩ := gb_bd_e h
        have Fr15 := gb_Fr.tr Fr11 (gb_Fr.up (w_X4_tell er15) (fun _ _ hw => hw.elim (fun h0 => Or.inl (h0)) (fun h0 => Or.inr (Or.inl (h0)))))
        exact gb_Fr.tr Fr15 (w_X4_moveAll_38 (fun hh => ih hh) h)
set_option maxRecDepth 100000 in
set_option maxHeartbeats 4000000 in
theorem w_X4_moveAll {sh : List gb_Sh} {b1 : Nat} {g : gb_G}  {o : (gb_G)} (h : f_X4_moveAll sh g b1 = some o) : gb_Fr (fun c k => c = 53 ∨ c = 55 ∨ c = 56 ∨ c = b1 + 1 ∨ (c = b1 + 4 ∧ k = 0)) g o := by
  unfold f_X4_moveAll at h
  have Fg : gb_Fr (fun c k => c = 53 ∨ c = 55 ∨ c = 56 ∨ c = b1 + 1 ∨ (c = b1 + 4 ∧ k = 0)) g g := gb_Fr.rf
  obtain ⟨r1, er1, h⟩ := gb_bd_e h
  have Fr1 := gb_Fr.tr Fg (gb_Fr.up (w_X0_lawInForce er1) (fun _ _ hw => hw.elim))
  exact gb_Fr.tr Fr1 (w_X4_moveAll_7 _ h)
set_option maxRecDepth 100000 in
set_option maxHeartbeats 4000000 in
theorem w_X6_loadWares_95 {sh : List gb_Sh} {b1 : Nat} {K7 : gb_G → Option Nat → Int32 → Option (gb_G)} {y2 : Option Nat} {y3 : Int32} {z0 : Int32} {z1 : Int32} {g : gb_G} (hK7 : ∀ {a0 : gb_G} {a1 : Option Nat} {a2 : Int32} {o : (gb_G)}, K7 a0 a1 a2 = some o → gb_Fr (fun c k => c = 53 ∨ c = 55 ∨ c = 66 ∨ c = 67 ∨ c = 68) a0 o) {o : (gb_G)} (h : f_X6_loadWares_95 sh b1 K7 g y2 y3 z0 z1 = some o) : gb_Fr (fun c k => c = 53 ∨ c = 55 ∨ c = 66 ∨ c = 67 ∨ c = 68) g o := by
  unfold f_X6_loadWares_95 at h
  have Fg : gb_Fr (fun c k => c = 53 ∨ c = 55 ∨ c = 66 ∨ c = 67 ∨ c = 68) g g := gb_Fr.rf
  obtain ⟨-, h⟩ := gb_ck_e h
  obtain ⟨g14, eg14, h⟩ := gb_let_x h
  have Fg14 := gb_Fr.tr Fg (gb_Fr.pi (Or.inr (Or.inr (Or.inr (Or.inr (rfl))))) eg14)
  exact gb_Fr.tr Fg14 (hK7 h)
set_option maxRecDepth 100000 in
set_option maxHeartbeats 4000000 in
theorem w_X6_loadWares_77 {sh : List gb_Sh} {b1 : Nat} {K7 : gb_G → Option Nat → Int32 → Option (gb_G)} {y2 : Option Nat} {y3 : Int32} {z0 : Int32} {g : gb_G} (hK7 : ∀ {a0 : gb_G} {a1 : Option Nat} {a2 : Int32} {o : (gb_G)}, K7 a0 a1 a2 = some o → gb_Fr (fun c k => c = 53 ∨ c = 55 ∨ c = 66 ∨ c = 67 ∨ c = 68) a0 o) {o : (gb_G)} (h : f_X6_loadWares_77 sh b1 K7 g y2 y3 z0 = some o) : gb_Fr (fun c k => c = 53 ∨ c = 55 ∨ c = 66 ∨ c = 67 ∨ c = 68) g o := by
  unfold f_X6_loadWares_77 at h
  have Fg : gb_Fr (fun c k => c = 53 ∨ c = 55 ∨ c = 66 ∨ c = 67 ∨ c = 68) g g := gb_Fr.rf
  rcases gb_ite_e h with h | h
  · exact gb_Fr.tr Fg (w_X6_loadWares_95 (hK7) h)
  · exact gb_Fr.tr Fg (w_X6_loadWares_95 (hK7) h)
set_option maxRecDepth 100000 in
set_option maxHeartbeats 4000000 in
theorem w_X6_loadWares_7 {sh : List gb_Sh} {b1 : Nat}  : ∀ (n : Nat) {g : gb_G} {y2 : Option Nat} {y3 : Int32} {o : (gb_G)} (h : f_X6_loadWares_7 sh b1 n g y2 y3 = some o), gb_Fr (fun c k => c = 53 ∨ c = 55 ∨ c = 66 ∨ c = 67 ∨ c = 68) g o := by
  intro n
  induction n with
  | zero => intro g y2 y3 o h; cases h
  | succ n ih =>
    intro g y2 y3 o h
    rw [f_X6_loadWares_7] at h
    have Fg : gb_Fr (fun c k => c = 53 ∨ c = 55 ∨ c = 66 ∨ c = 67 ∨ c = 68) g g := gb_Fr.rf
    rcases gb_ite_e h with h | h
    · cases h
      exact Fg
    · rcases gb_ite_e h with h | h
      · cases h
        exact Fg
      · obtain ⟨r3, er3, h⟩ := gb_bd_e h
        have Fr3 := gb_Fr.tr Fg (gb_Fr.up (w_X0_read er3) (fun _ _ hw => hw.elim))
        obtain ⟨-, h⟩ := gb_ck_e h
        obtain ⟨g6, eg6, h⟩ := gb_let_x h
        have Fg6 := gb_Fr.tr Fr3 (gb_Fr.pi (Or.inr (Or.inr (Or.inl (rfl)))) eg6)
        obtain ⟨r7, er7, h⟩ := gb_bd_e h
        have Fr7 := gb_Fr.tr Fg6 (gb_Fr.up (w_X4_tell er7) (fun _ _ hw => hw.elim (fun h0 => Or.inl (h0)) (fun h0 => Or.inr (Or.inl (h0)))))
        obtain ⟨-, h⟩ := gb_ck_e h
        obtain ⟨g10, eg10, h⟩ := gb_let_x h
        have Fg10 := gb_Fr.tr Fr7 (gb_Fr.pi (Or.inr (Or.inr (Or.inr (Or.inl (rfl))))) eg10)
        obtain ⟨r11, er11, h⟩ := gb_bd_e h
        have Fr11 := gb_Fr.tr Fg10 (gb_Fr.up (w_X0_lacks er11) (fun _ _ hw => hw.elim))
        rcases gb_ite_e h with h | h
        · obtain ⟨r15, er15, h⟩ := gb_bd_e h
          have Fr15 := gb_Fr.tr Fr11 (gb_Fr.up (w_X4_tell er15) (fun _ _ hw => hw.elim (fun h0 => Or.inl (h0)) (fun h0 => Or.inr (Or.inl (h0)))))
          rcases gb_ite_e h with h | h
          · exact gb_Fr.tr Fr15 (w_X6_loadWares_77 (fun hh => ih hh) h)
          · exact gb_Fr.tr Fr15 (w_X6_loadWares_77 (fun hh => ih hh) h)
        · exact gb_Fr.tr Fr11 (w_X6_loadWares_77 (fun hh => ih hh) h)
set_option maxRecDepth 100000 in
set_option maxHeartbeats 4000000 in
theorem w_X6_loadWares {sh : List gb_Sh} {b1 : Nat} {g : gb_G}  {o : (gb_G)} (h : f_X6_loadWares sh g b1 = some o) : gb_Fr (fun c k => c = 53 ∨ c = 55 ∨ c = 66 ∨ c = 67 ∨ c = 68) g o := by
  unfold f_X6_loadWares at h
  have Fg : gb_Fr (fun c k => c = 53 ∨ c = 55 ∨ c = 66 ∨ c = 67 ∨ c = 68) g g := gb_Fr.rf
  obtain ⟨r1, er1, h⟩ := gb_bd_e h
  have Fr1 := gb_Fr.tr Fg (gb_Fr.up (w_X0_lawInForce er1) (fun _ _ hw => hw.elim))
  exact gb_Fr.tr Fr1 (w_X6_loadWares_7 _ h)
set_option maxRecDepth 100000 in
set_option maxHeartbeats 4000000 in
theorem w_X6_costWith {sh : List gb_Sh} {x1 : Int32} {x2 : Int32} {x3 : Int32} {g : gb_G}  {o : (gb_G × Int32)} (h : f_X6_costWith sh g x1 x2 x3 = some o) : gb_Fr (fun _ _ => False) g o.1 := by
  unfold f_X6_costWith at h
  have Fg : gb_Fr (fun _ _ => False) g g := gb_Fr.rf
  obtain ⟨-, h⟩ := gb_ck_e h
  obtain ⟨r2, er2, h⟩ := gb_bd_e h
  have Fr2 := gb_Fr.tr Fg (gb_Fr.up (w_X10_nearest er2) (fun _ _ hw => hw.elim))
  obtain ⟨-, h⟩ := gb_ck_e h
  obtain ⟨-, h⟩ := gb_ck_e h
  obtain ⟨r6, er6, h⟩ := gb_bd_e h
  have Fr6 := gb_Fr.tr Fr2 (gb_Fr.up (w_J9_min_7cf53 er6) (fun _ _ hw => hw.elim))
  cases h
  exact Fr6
set_option maxRecDepth 100000 in
set_option maxHeartbeats 4000000 in
theorem w_X6_bestAmount_64 {sh : List gb_Sh} {K14 : gb_G → Int32 → Int32 → Int32 → Int32 → Int32 → Option (gb_G × Int32)} {y1 : Int32} {y2 : Int32} {y3 : Int32} {y4 : Int32} {y5 : Int32} {g : gb_G} (hK14 : ∀ {a0 : gb_G} {a1 : Int32} {a2 : Int32} {a3 : Int32} {a4 : Int32} {a5 : Int32} {o : (gb_G × Int32)}, K14 a0 a1 a2 a3 a4 a5 = some o → gb_Fr (fun _ _ => False) a0 o.1) {o : (gb_G × Int32)} (h : f_X6_bestAmount_64 sh K14 g y1 y2 y3 y4 y5 = some o) : gb_Fr (fun _ _ => False) g o.1 := by
  unfold f_X6_bestAmount_64 at h
  have Fg : gb_Fr (fun _ _ => False) g g := gb_Fr.rf
  exact gb_Fr.tr Fg (hK14 h)
set_option maxRecDepth 100000 in
set_option maxHeartbeats 4000000 in
theorem w_X6_bestAmount_14 {sh : List gb_Sh}  : ∀ (n : Nat) {g : gb_G} {y1 : Int32} {y2 : Int32} {y3 : Int32} {y4 : Int32} {y5 : Int32} {o : (gb_G × Int32)} (h : f_X6_bestAmount_14 sh n g y1 y2 y3 y4 y5 = some o), gb_Fr (fun _ _ => False) g o.1 := by
  intro n
  induction n with
  | zero => intro g y1 y2 y3 y4 y5 o h; cases h
  | succ n ih =>
    intro g y1 y2 y3 y4 y5 o h
    rw [f_X6_bestAmount_14] at h
    have Fg : gb_Fr (fun _ _ => False) g g := gb_Fr.rf
    obtain ⟨-, h⟩ := gb_ck_e h
    rcases gb_ite_e h with h | h
    · cases h
      exact Fg
    · obtain ⟨-, h⟩ := gb_ck_e h
      rcases gb_ite_e h with h | h
      · cases h
        exact Fg
      · obtain ⟨r5, er5, h⟩ := gb_bd_e h
        have Fr5 := gb_Fr.tr Fg (gb_Fr.up (w_X6_costWith er5) (fun _ _ hw => hw.elim))
        rcases gb_ite_e h with h | h
        · exact gb_Fr.tr Fr5 (w_X6_bestAmount_64 (fun hh => ih hh) h)
        · exact gb_Fr.tr Fr5 (w_X6_bestAmount_64 (fun hh => ih hh) h)
set_option maxRecDepth 100000 in
set_option maxHeartbeats 4000000 in
theorem w_X6_bestAmount {sh : List gb_Sh} {x1 : Int32} {x2 : Int32} {g : gb_G}  {o : (gb_G × Int32)} (h : f_X6_bestAmount sh g x1 x2 = some o) : gb_Fr (fun _ _ => False) g o.1 := by
  unfold f_X6_bestAmount at h
  have Fg : gb_Fr (fun _ _ => False) g g := gb_Fr.rf
  obtain ⟨r1, er1, h⟩ := gb_bd_e h
  have Fr1 := gb_Fr.tr Fg (gb_Fr.up (w_X6_costWith er1) (fun _ _ hw => hw.elim))
  exact gb_Fr.tr Fr1 (w_X6_bestAmount_14 _ h)
set_option maxRecDepth 100000 in
set_option maxHeartbeats 4000000 in
theorem w_X6_cheapest_131 {sh : List gb_Sh} {b1 : Nat}  : ∀ (n : Nat) {g : gb_G} {y3 : Int32} {y4 : Int32} {y5 : Int32} {y6 : Int32} {o : (gb_G × Int32)} (h : f_X6_cheapest_131 sh b1 n g y3 y4 y5 y6 = some o), gb_Fr (fun c k => c = 53 ∨ c = 55 ∨ c = 64 ∨ c = 65 ∨ c = 66 ∨ c = 67 ∨ c = 68) g o.1 := by
  intro n
  induction n with
  | zero => intro g y3 y4 y5 y6 o h; cases h
  | succ n ih =>
    intro g y3 y4 y5 y6 o h
    rw [f_X6_cheapest_131] at h
    have Fg : gb_Fr (fun c k => c = 53 ∨ c = 55 ∨ c = 64 ∨ c = 65 ∨ c = 66 ∨ c = 67 ∨ c = 68) g g := gb_Fr.rf
    rcases gb_ite_e h with h | h
    · obtain ⟨-, h⟩ := gb_ck_e h
      rcases gb_ite_e h with h | h
      · obtain ⟨-, h⟩ := gb_ck_e h
        cases h
        exact Fg
      · cases h
        exact Fg
    · obtain ⟨r9, er9, h⟩ := gb_bd_e h
      have Fr9 := gb_Fr.tr Fg (gb_Fr.up (w_X6_bestAmount er9) (fun _ _ hw => hw.elim))
      obtain ⟨-, h⟩ := gb_ck_e h
      obtain ⟨g12, eg12, h⟩ := gb_let_x h
      have Fg12 := gb_Fr.tr Fr9 (gb_Fr.pi (Or.inr (Or.inr (Or.inr (Or.inl (rfl))))) eg12)
      obtain ⟨-, h⟩ := gb_ck_e h
      obtain ⟨-, h⟩ := gb_ck_e h
      obtain ⟨r15, er15, h⟩ := gb_bd_e h
      have Fr15 := gb_Fr.tr Fg12 (gb_Fr.up (w_J9_max_7cf53 er15) (fun _ _ hw => hw.elim))
      exact gb_Fr.tr Fr15 (ih h)
set_option maxRecDepth 100000 in
set_option maxHeartbeats 4000000 in
theorem w_X6_cheapest_76 {sh : List gb_Sh} {b1 : Nat} {K68 : gb_G → Int32 → Int32 → Int32 → Option (gb_G × Int32)} (hK68 : ∀ {a0 : gb_G} {a1 : Int32} {a2 : Int32} {a3 : Int32} {o : (gb_G × Int32)}, K68 a0 a1 a2 a3 = some o → gb_Fr (fun c k => c = 53 ∨ c = 55 ∨ c = 64 ∨ c = 65 ∨ c = 66 ∨ c = 67 ∨ c = 68) a0 o.1) : ∀ (n : Nat) {g : gb_G} {y3 : Int32} {y4 : Int32} {y5 : Int32} {y6 : Int32} {o : (gb_G × Int32)} (h : f_X6_cheapest_76 sh b1 K68 n g y3 y4 y5 y6 = some o), gb_Fr (fun c k => c = 53 ∨ c = 55 ∨ c = 64 ∨ c = 65 ∨ c = 66 ∨ c = 67 ∨ c = 68) g o.1 := by
  intro n
  induction n with
  | zero => intro g y3 y4 y5 y6 o h; cases h
  | succ n ih =>
    intro g y3 y4 y5 y6 o h
    rw [f_X6_cheapest_76] at h
    have Fg : gb_Fr (fun c k => c = 53 ∨ c = 55 ∨ c = 64 ∨ c = 65 ∨ c = 66 ∨ c = 67 ∨ c = 68) g g := gb_Fr.rf
    rcases gb_ite_e h with h | h
    · exact gb_Fr.tr Fg (hK68 h)
    · obtain ⟨r17, er17, h⟩ := gb_bd_e h
      have Fr17 := gb_Fr.tr Fg (gb_Fr.up (w_X6_bestAmount er17) (fun _ _ hw => hw.elim))
      obtain ⟨r19, er19, h⟩ := gb_bd_e h
      have Fr19 := gb_Fr.tr Fr17 (gb_Fr.up (w_X6_costWith er19) (fun _ _ hw => hw.elim))
      obtain ⟨-, h⟩ := gb_ck_e h
      obtain ⟨g22, eg22, h⟩ := gb_let_x h
      have Fg22 := gb_Fr.tr Fr19 (gb_Fr.pi (Or.inr (Or.inr (Or.inl (rfl)))) eg22)
      exact gb_Fr.tr Fg22 (ih h)
set_option maxRecDepth 100000 in
set_option maxHeartbeats 4000000 in
theorem w_X6_cheapest_68 {sh : List gb_Sh} {b1 : Nat}  : ∀ (n : Nat) {g : gb_G} {y3 : Int32} {y4 : Int32} {y5 : Int32} {o : (gb_G × Int32)} (h : f_X6_cheapest_68 sh b1 n g y3 y4 y5 = some o), gb_Fr (fun c k => c = 53 ∨ c = 55 ∨ c = 64 ∨ c = 65 ∨ c = 66 ∨ c = 67 ∨ c = 68) g o.1 := by
  intro n
  induction n with
  | zero => intro g y3 y4 y5 o h; cases h
  | succ n ih =>
    intro g y3 y4 y5 o h
    rw [f_X6_cheapest_68] at h
    have Fg : gb_Fr (fun c k => c = 53 ∨ c = 55 ∨ c = 64 ∨ c = 65 ∨ c = 66 ∨ c = 67 ∨ c = 68) g g := gb_Fr.rf
    rcases gb_ite_e h with h | h
    · exact gb_Fr.tr Fg (w_X6_cheapest_131 _ h)
    · exact gb_Fr.tr Fg (w_X6_cheapest_76 (fun hh => ih hh) _ h)
set_option maxRecDepth 100000 in
set_option maxHeartbeats 4000000 in
theorem w_X6_cheapest_56 {sh : List gb_Sh} {b1 : Nat} {K27 : gb_G → Int32 → Int32 → Int32 → Option (gb_G × Int32)} {y3 : Int32} {y4 : Int32} {y5 : Int32} {z0 : Int32} {z1 : Int32} {g : gb_G} (hK27 : ∀ {a0 : gb_G} {a1 : Int32} {a2 : Int32} {a3 : Int32} {o : (gb_G × Int32)}, K27 a0 a1 a2 a3 = some o → gb_Fr (fun c k => c = 53 ∨ c = 55 ∨ c = 64 ∨ c = 65 ∨ c = 66 ∨ c = 67 ∨ c = 68) a0 o.1) {o : (gb_G × Int32)} (h : f_X6_cheapest_56 sh b1 K27 g y3 y4 y5 z0 z1 = some o) : gb_Fr (fun c k => c = 53 ∨ c = 55 ∨ c = 64 ∨ c = 65 ∨ c = 66 ∨ c = 67 ∨ c = 68) g o.1 := by
  unfold f_X6_cheapest_56 at h
  have Fg : gb_Fr (fun c k => c = 53 ∨ c = 55 ∨ c = 64 ∨ c = 65 ∨ c = 66 ∨ c = 67 ∨ c = 68) g g := gb_Fr.rf
  obtain ⟨-, h⟩ := gb_ck_e h
  obtain ⟨g24, eg24, h⟩ := gb_let_x h
  have Fg24 := gb_Fr.tr Fg (gb_Fr.pi (Or.inr (Or.inr (Or.inl (rfl)))) eg24)
  exact gb_Fr.tr Fg24 (hK27 h)
set_option maxRecDepth 100000 in
set_option maxHeartbeats 4000000 in
theorem w_X6_cheapest_27 {sh : List gb_Sh} {b1 : Nat}  : ∀ (n : Nat) {g : gb_G} {y3 : Int32} {y4 : Int32} {y5 : Int32} {o : (gb_G × Int32)} (h : f_X6_cheapest_27 sh b1 n g y3 y4 y5 = some o), gb_Fr (fun c k => c = 53 ∨ c = 55 ∨ c = 64 ∨ c = 65 ∨ c = 66 ∨ c = 67 ∨ c = 68) g o.1 := by
  intro n
  induction n with
  | zero => intro g y3 y4 y5 o h; cases h
  | succ n ih =>
    intro g y3 y4 y5 o h
    rw [f_X6_cheapest_27] at h
    have Fg : gb_Fr (fun c k => c = 53 ∨ c = 55 ∨ c = 64 ∨ c = 65 ∨ c = 66 ∨ c = 67 ∨ c = 68) g g := gb_Fr.rf
    rcases gb_ite_e h with h | h
    · exact gb_Fr.tr Fg (w_X6_cheapest_68 _ h)
    · rcases gb_ite_e h with h | h
      · exact gb_Fr.tr Fg (w_X6_cheapest_56 (fun hh => ih hh) h)
      · exact gb_Fr.tr Fg (w_X6_cheapest_56 (fun hh => ih hh) h)
set_option maxRecDepth 100000 in
set_option maxHeartbeats 4000000 in
theorem w_X6_cheapest {sh : List gb_Sh} {b1 : Nat} {x2 : Int32} {g : gb_G}  {o : (gb_G × Int32)} (h : f_X6_cheapest sh g b1 x2 = some o) : gb_Fr (fun c k => c = 53 ∨ c = 55 ∨ c = 64 ∨ c = 65 ∨ c = 66 ∨ c = 67 ∨ c = 68) g o.1 := by
  unfold f_X6_cheapest at h
  have Fg : gb_Fr (fun c k => c = 53 ∨ c = 55 ∨ c = 64 ∨ c = 65 ∨ c = 66 ∨ c = 67 ∨ c = 68) g g := gb_Fr.rf
  obtain ⟨r1, er1, h⟩ := gb_bd_e h
  have Fr1 := gb_Fr.tr Fg (gb_Fr.up (w_X6_loadWares er1) (fun _ _ hw => hw.elim (fun h0 => Or.inl (h0)) (fun h0 => h0.elim (fun h1 => Or.inr (Or.inl (h1))) (fun h1 => h1.elim (fun h2 => Or.inr (Or.inr (Or.inr (Or.inr (Or.inl (h2)))))) (fun h2 => h2.elim (fun h3 => Or.inr (Or.inr (Or.inr (Or.inr (Or.inr (Or.inl (h3))))))) (fun h3 => Or.inr (Or.inr (Or.inr (Or.inr (Or.inr (Or.inr (h3))))))))))))
  obtain ⟨r3, er3, h⟩ := gb_bd_e h
  have Fr3 := gb_Fr.tr Fr1 (gb_Fr.up (w_J9_min_7cf53 er3) (fun _ _ hw => hw.elim))
  obtain ⟨r5, er5, h⟩ := gb_bd_e h
  have Fr5 := gb_Fr.tr Fr3 (gb_Fr.up (w_X10_nearest er5) (fun _ _ hw => hw.elim))
  exact gb_Fr.tr Fr5 (w_X6_cheapest_27 _ h)
set_option maxRecDepth 100000 in
set_option maxHeartbeats 4000000 in
theorem w_X6_amountOf {sh : List gb_Sh} {x1 : Int32} {g : gb_G}  {o : (gb_G × Int32)} (h : f_X6_amountOf sh g x1 = some o) : gb_Fr (fun _ _ => False) g o.1 := by
  unfold f_X6_amountOf at h
  have Fg : gb_Fr (fun _ _ => False) g g := gb_Fr.rf
  obtain ⟨r1, er1, h⟩ := gb_bd_e h
  have Fr1 := gb_Fr.tr Fg (gb_Fr.up (w_X10_within er1) (fun _ _ hw => hw.elim))
  rcases gb_ite_e h with h | h
  · cases h
    exact Fr1
  · obtain ⟨-, h⟩ := gb_ck_e h
    cases h
    exact Fr1
set_option maxRecDepth 100000 in
set_option maxHeartbeats 4000000 in
theorem w_X6_loadPlaces_87 {sh : List gb_Sh} {b1 : Nat} {K16 : gb_G → Int32 → Int32 → Option (gb_G × Int32)} {y3 : Int32} {z0 : Int32} {z1 : Int32} {g : gb_G} (hK16 : ∀ {a0 : gb_G} {a1 : Int32} {a2 : Int32} {o : (gb_G × Int32)}, K16 a0 a1 a2 = some o → gb_Fr (fun c k => c = 53 ∨ c = 55 ∨ c = 57 ∨ c = 58 ∨ c = 59 ∨ c = 60 ∨ c = 70) a0 o.1) {o : (gb_G × Int32)} (h : f_X6_loadPlaces_87 sh b1 K16 g y3 z0 z1 = some o) : gb_Fr (fun c k => c = 53 ∨ c = 55 ∨ c = 57 ∨ c = 58 ∨ c = 59 ∨ c = 60 ∨ c = 70) g o.1 := by
  unfold f_X6_loadPlaces_87 at h
  have Fg : gb_Fr (fun c k => c = 53 ∨ c = 55 ∨ c = 57 ∨ c = 58 ∨ c = 59 ∨ c = 60 ∨ c = 70) g g := gb_Fr.rf
  exact gb_Fr.tr Fg (hK16 h)
set_option maxRecDepth 100000 in
set_option maxHeartbeats 4000000 in
theorem w_X6_loadPlaces_73 {sh : List gb_Sh} {b1 : Nat} {K16 : gb_G → Int32 → Int32 → Option (gb_G × Int32)} {y2 : Int32} {y3 : Int32} {y4 : Int32} {z0 : Int32} {z1 : Int32} {g : gb_G} (hK16 : ∀ {a0 : gb_G} {a1 : Int32} {a2 : Int32} {o : (gb_G × Int32)}, K16 a0 a1 a2 = some o → gb_Fr (fun c k => c = 53 ∨ c = 55 ∨ c = 57 ∨ c = 58 ∨ c = 59 ∨ c = 60 ∨ c = 70) a0 o.1) {o : (gb_G × Int32)} (h : f_X6_loadPlaces_73 sh b1 K16 g y2 y3 y4 z0 z1 = some o) : gb_Fr (fun c k => c = 53 ∨ c = 55 ∨ c = 57 ∨ c = 58 ∨ c = 59 ∨ c = 60 ∨ c = 70) g o.1 := by
  unfold f_X6_loadPlaces_73 at h
  have Fg : gb_Fr (fun c k => c = 53 ∨ c = 55 ∨ c = 57 ∨ c = 58 ∨ c = 59 ∨ c = 60 ∨ c = 70) g g := gb_Fr.rf
  obtain ⟨-, h⟩ := gb_ck_e h
  obtain ⟨g8, eg8, h⟩ := gb_let_x h
  have Fg8 := gb_Fr.tr Fg (gb_Fr.pi (Or.inr (Or.inr (Or.inr (Or.inr (Or.inr (Or.inr (rfl))))))) eg8)
  rcases gb_ite_e h with h | h
  · exact gb_Fr.tr Fg8 (w_X6_loadPlaces_87 (hK16) h)
  · exact gb_Fr.tr Fg8 (w_X6_loadPlaces_87 (hK16) h)
set_option maxRecDepth 100000 in
set_option maxHeartbeats 4000000 in
theorem w_X6_loadPlaces_47 {sh : List gb_Sh} {b1 : Nat} {K16 : gb_G → Int32 → Int32 → Option (gb_G × Int32)} {y2 : Int32} {y3 : Int32} {z0 : Int32} {g : gb_G} (hK16 : ∀ {a0 : gb_G} {a1 : Int32} {a2 : Int32} {o : (gb_G × Int32)}, K16 a0 a1 a2 = some o → gb_Fr (fun c k => c = 53 ∨ c = 55 ∨ c = 57 ∨ c = 58 ∨ c = 59 ∨ c = 60 ∨ c = 70) a0 o.1) {o : (gb_G × Int32)} (h : f_X6_loadPlaces_47 sh b1 K16 g y2 y3 z0 = some o) : gb_Fr (fun c k => c = 53 ∨ c = 55 ∨ c = 57 ∨ c = 58 ∨ c = 59 ∨ c = 60 ∨ c = 70) g o.1 := by
  unfold f_X6_loadPlaces_47 at h
  have Fg : gb_Fr (fun c k => c = 53 ∨ c = 55 ∨ c = 57 ∨ c = 58 ∨ c = 59 ∨ c = 60 ∨ c = 70) g g := gb_Fr.rf
  rcases gb_ite_e h with h | h
  · exact gb_Fr.tr Fg (w_X6_loadPlaces_73 (hK16) h)
  · obtain ⟨r9, er9, h⟩ := gb_bd_e h
    have Fr9 := gb_Fr.tr Fg (gb_Fr.up (w_X0_sourceOf er9) (fun _ _ hw => hw.elim))
    obtain ⟨r11, er11, h⟩ := gb_bd_e h
    have Fr11 := gb_Fr.tr Fr9 (gb_Fr.up (w_X0_read er11) (fun _ _ hw => hw.elim))
    exact gb_Fr.tr Fr11 (w_X6_loadPlaces_73 (hK16) h)
set_option maxRecDepth 100000 in
set_option maxHeartbeats 4000000 in
theorem w_X6_loadPlaces_16 {sh : List gb_Sh} {b1 : Nat}  : ∀ (n : Nat) {g : gb_G} {y2 : Int32} {y3 : Int32} {o : (gb_G × Int32)} (h : f_X6_loadPlaces_16 sh b1 n g y2 y3 = some o), gb_Fr (fun c k => c = 53 ∨ c = 55 ∨ c = 57 ∨ c = 58 ∨ c = 59 ∨ c = 60 ∨ c = 70) g o.1 := by
  intro n
  induction n with
  | zero => intro g y2 y3 o h; cases h
  | succ n ih =>
    intro g y2 y3 o h
    rw [f_X6_loadPlaces_16] at h
    have Fg : gb_Fr (fun c k => c = 53 ∨ c = 55 ∨ c = 57 ∨ c = 58 ∨ c = 59 ∨ c = 60 ∨ c = 70) g g := gb_Fr.rf
    rcases gb_ite_e h with h | h
    · cases h
      exact Fg
    · obtain ⟨r5, er5, h⟩ := gb_bd_e h
      have Fr5 := gb_Fr.tr Fg (gb_Fr.up (w_X0_has er5) (fun _ _ hw => hw.elim))
      rcases gb_ite_e h with h | h
      · exact gb_Fr.tr Fr5 (w_X6_loadPlaces_47 (fun hh => ih hh) h)
      · obtain ⟨-, h⟩ := gb_ck_e h
        rcases gb_ite_e h with h | h
        · exact gb_Fr.tr Fr5 (w_X6_loadPlaces_47 (fun hh => ih hh) h)
        · exact gb_Fr.tr Fr5 (w_X6_loadPlaces_47 (fun hh => ih hh) h)
set_option maxRecDepth 100000 in
set_option maxHeartbeats 4000000 in
theorem w_X6_loadPlaces {sh : List gb_Sh} {b1 : Nat} {g : gb_G}  {o : (gb_G × Int32)} (h : f_X6_loadPlaces sh g b1 = some o) : gb_Fr (fun c k => c = 53 ∨ c = 55 ∨ c = 57 ∨ c = 58 ∨ c = 59 ∨ c = 60 ∨ c = 70) g o.1 := by
  unfold f_X6_loadPlaces at h
  have Fg : gb_Fr (fun c k => c = 53 ∨ c = 55 ∨ c = 57 ∨ c = 58 ∨ c = 59 ∨ c = 60 ∨ c = 70) g g := gb_Fr.rf
  obtain ⟨r1, er1, h⟩ := gb_bd_e h
  have Fr1 := gb_Fr.tr Fg (gb_Fr.up (w_X0_lawInForce er1) (fun _ _ hw => hw.elim))
  obtain ⟨r3, er3, h⟩ := gb_bd_e h
  have Fr3 := gb_Fr.tr Fr1 (gb_Fr.up (w_X1_load er3) (fun _ _ hw => hw.elim (fun h0 => Or.inl (h0)) (fun h0 => h0.elim (fun h1 => Or.inr (Or.inl (h1))) (fun h1 => h1.elim (fun h2 => Or.inr (Or.inr (Or.inl (h2)))) (fun h2 => h2.elim (fun h3 => Or.inr (Or.inr (Or.inr (Or.inl (h3))))) (fun h3 => h3.elim (fun h4 => Or.inr (Or.inr (Or.inr (Or.inr (Or.inl (h4)))))) (fun h4 => Or.inr (Or.inr (Or.inr (Or.inr (Or.inr (Or.inl (h4)))))))))))))
  exact gb_Fr.tr Fr3 (w_X6_loadPlaces_16 _ h)
set_option maxRecDepth 100000 in
set_option maxHeartbeats 4000000 in
theorem w_J9_abs_0f7a4 {sh : List gb_Sh} {x1 : Int32} {g : gb_G}  {o : (gb_G × Int32)} (h : f_J9_abs_0f7a4 sh g x1 = some o) : gb_Fr (fun _ _ => False) g o.1 := by
  unfold f_J9_abs_0f7a4 at h
  have Fg : gb_Fr (fun _ _ => False) g g := gb_Fr.rf
  rcases gb_ite_e h with h | h
  · cases h
    exact Fg
  · cases h
    exact Fg
set_option maxRecDepth 100000 in
set_option maxHeartbeats 4000000 in
theorem w_X6_stepsBetween {sh : List gb_Sh} {x1 : Int32} {x2 : Int32} {g : gb_G}  {o : (gb_G × Int32)} (h : f_X6_stepsBetween sh g x1 x2 = some o) : gb_Fr (fun _ _ => False) g o.1 := by
  unfold f_X6_stepsBetween at h
  have Fg : gb_Fr (fun _ _ => False) g g := gb_Fr.rf
  obtain ⟨r1, er1, h⟩ := gb_bd_e h
  have Fr1 := gb_Fr.tr Fg (gb_Fr.up (w_J9_abs_0f7a4 er1) (fun _ _ hw => hw.elim))
  obtain ⟨r3, er3, h⟩ := gb_bd_e h
  have Fr3 := gb_Fr.tr Fr1 (gb_Fr.up (w_J9_abs_0f7a4 er3) (fun _ _ hw => hw.elim))
  cases h
  exact Fr3
set_option maxRecDepth 100000 in
set_option maxHeartbeats 4000000 in
theorem w_X6_shortest_108 {sh : List gb_Sh} {y3 : Int32} {g : gb_G}  {o : (gb_G × Int32)} (h : f_X6_shortest_108 sh g y3 = some o) : gb_Fr (fun _ _ => False) g o.1 := by
  unfold f_X6_shortest_108 at h
  have Fg : gb_Fr (fun _ _ => False) g g := gb_Fr.rf
  obtain ⟨r1, er1, h⟩ := gb_bd_e h
  have Fr1 := gb_Fr.tr Fg (gb_Fr.up (w_J9_max_7cf53 er1) (fun _ _ hw => hw.elim))
  cases h
  exact Fr1
set_option maxRecDepth 100000 in
set_option maxHeartbeats 4000000 in
theorem w_X6_shortest_102 {sh : List gb_Sh} {K5 : gb_G → Int32 → Int32 → Int32 → Int32 → Option (gb_G × Int32)} {y1 : Int32} {y2 : Int32} {y3 : Int32} {y4 : Int32} {g : gb_G} (hK5 : ∀ {a0 : gb_G} {a1 : Int32} {a2 : Int32} {a3 : Int32} {a4 : Int32} {o : (gb_G × Int32)}, K5 a0 a1 a2 a3 a4 = some o → gb_Fr (fun _ _ => False) a0 o.1) {o : (gb_G × Int32)} (h : f_X6_shortest_102 sh K5 g y1 y2 y3 y4 = some o) : gb_Fr (fun _ _ => False) g o.1 := by
  unfold f_X6_shortest_102 at h
  have Fg : gb_Fr (fun _ _ => False) g g := gb_Fr.rf
  exact gb_Fr.tr Fg (hK5 h)
