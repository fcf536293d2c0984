def gb_okX0 (sh : List gb_Sh) (b : Nat) : Prop := sh[b]? = some (.inr (0, [0, b + 1 + 3, 0, b + 2 + 3, 0, b + 3 + 3, b + 4 + 3, 0, b + 5 + 3, 0])) ∧ sh[b + 1]? = some (.inl (0, 56)) ∧ sh[b + 2]? = some (.inl (0, 40)) ∧ sh[b + 3]? = some (.inl (0, 12)) ∧ sh[b + 4]? = some (.inl (0, 3)) ∧ sh[b + 5]? = some (.inl (3, 6))
noncomputable def gb_gdX0 {β : Type} (sh : List gb_Sh) (b : Nat) (r : Option β) : Option β := @ite _ (gb_okX0 sh b) (Classical.propDecidable _) r none
theorem gb_gdX0_e {β : Type} {sh : List gb_Sh} {b : Nat} {r : Option β} {o : β} (h : gb_gdX0 sh b r = some o) : gb_okX0 sh b ∧ r = some o := by
  unfold gb_gdX0 at h
  split at h
  · rename_i q; exact ⟨q, h⟩
  · cases h
def gb_okX3 (sh : List gb_Sh) (b : Nat) : Prop := sh[b]? = some (.inr (3, [0, b + 1 + 3, b + 2 + 3, b + 3 + 3, b + 4 + 3])) ∧ sh[b + 1]? = some (.inl (0, 16)) ∧ sh[b + 2]? = some (.inl (0, 16)) ∧ sh[b + 3]? = some (.inl (0, 16)) ∧ sh[b + 4]? = some (.inl (0, 128))
noncomputable def gb_gdX3 {β : Type} (sh : List gb_Sh) (b : Nat) (r : Option β) : Option β := @ite _ (gb_okX3 sh b) (Classical.propDecidable _) r none
theorem gb_gdX3_e {β : Type} {sh : List gb_Sh} {b : Nat} {r : Option β} {o : β} (h : gb_gdX3 sh b r = some o) : gb_okX3 sh b ∧ r = some o := by
  unfold gb_gdX3 at h
  split at h
  · rename_i q; exact ⟨q, h⟩
  · cases h
def gb_okX7 (sh : List gb_Sh) (b : Nat) : Prop := sh[b]? = some (.inr (7, [0, b + 1 + 3, b + 2 + 3, 0, b + 3 + 3, b + 4 + 3, b + 5 + 3, 0])) ∧ sh[b + 1]? = some (.inl (0, gb_ln sh (b + 1))) ∧ sh[b + 2]? = some (.inl (0, gb_ln sh (b + 2))) ∧ sh[b + 3]? = some (.inl (0, gb_ln sh (b + 3))) ∧ sh[b + 4]? = some (.inl (0, gb_ln sh (b + 4))) ∧ sh[b + 5]? = some (.inl (0, gb_ln sh (b + 5)))
noncomputable def gb_gdX7 {β : Type} (sh : List gb_Sh) (b : Nat) (r : Option β) : Option β := @ite _ (gb_okX7 sh b) (Classical.propDecidable _) r none
theorem gb_gdX7_e {β : Type} {sh : List gb_Sh} {b : Nat} {r : Option β} {o : β} (h : gb_gdX7 sh b r = some o) : gb_okX7 sh b ∧ r = some o := by
  unfold gb_gdX7 at h
  split at h
  · rename_i q; exact ⟨q, h⟩
  · cases h
def gb_okX2 (sh : List gb_Sh) (b : Nat) : Prop := sh[b]? = some (.inr (2, [1, 1]))
noncomputable def gb_gdX2 {β : Type} (sh : List gb_Sh) (b : Nat) (r : Option β) : Option β := @ite _ (gb_okX2 sh b) (Classical.propDecidable _) r none
theorem gb_gdX2_e {β : Type} {sh : List gb_Sh} {b : Nat} {r : Option β} {o : β} (h : gb_gdX2 sh b r = some o) : gb_okX2 sh b ∧ r = some o := by
  unfold gb_gdX2 at h
  split at h
  · rename_i q; exact ⟨q, h⟩
  · cases h
def gb_SH : List gb_Sh := [.inr (10, [4, 10, 16, 22, 35, 36, 41, 46, 48, 55, 57, 60, 66, 78, 79, 0, 0, 0, 0]), .inr (0, [0, 5, 0, 6, 0, 7, 8, 0, 9, 0]), .inl (0, 56), .inl (0, 40), .inl (0, 12), .inl (0, 3), .inl (3, 6), .inr (0, [0, 11, 0, 12, 0, 13, 14, 0, 15, 0]), .inl (0, 56), .inl (0, 40), .inl (0, 12), .inl (0, 3), .inl (3, 6), .inr (0, [0, 17, 0, 18, 0, 19, 20, 0, 21, 0]), .inl (0, 56), .inl (0, 40), .inl (0, 12), .inl (0, 3), .inl (3, 6), .inl (4, 2), .inr (0, [0, 24, 0, 25, 0, 26, 27, 0, 28, 0]), .inl (0, 56), .inl (0, 40), .inl (0, 12), .inl (0, 3), .inl (3, 6), .inr (0, [0, 30, 0, 31, 0, 32, 33, 0, 34, 0]), .inl (0, 56), .inl (0, 40), .inl (0, 12), .inl (0, 3), .inl (3, 6), .inl (0, 2), .inr (3, [0, 37, 38, 39, 40]), .inl (0, 16), .inl (0, 16), .inl (0, 16), .inl (0, 128), .inr (3, [0, 42, 43, 44, 45]), .inl (0, 16), .inl (0, 16), .inl (0, 16), .inl (0, 128), .inr (9, [47, 0, 0, 0, 0]), .inl (0, 400), .inr (8, [46, 49, 0, 0]), .inr (7, [0, 50, 51, 0, 52, 53, 54, 0]), .inl (0, 400), .inl (0, 400), .inl (0, 12), .inl (0, 12), .inl (0, 37), .inr (5, [56]), .inl (0, 51), .inr (4, [55, 58, 59]), .inl (0, 9), .inl (0, 8), .inr (1, [57, 0, 61, 62, 63, 64, 65]), .inl (0, 8), .inl (0, 8), .inl (0, 8), .inr (2, [1, 1]), .inr (2, [1, 1]), .inr (6, [57, 60, 67, 68, 69, 70, 71, 72, 73, 74, 0, 75, 0, 76, 77]), .inl (0, 900), .inl (0, 8), .inl (0, 8), .inl (0, 8), .inl (0, 8), .inl (0, 2048), .inl (0, 8), .inl (0, 8), .inl (0, 256), .inl (1, 13), .inr (2, [1, 1]), .inl (0, 21), .inl (0, 7), .inr (11, [0, 0, 81, 82, 83, 84, 85, 86, 0, 87, 88, 0, 89, 0, 0, 0, 0, 1, 0, 0, 0, 0, 90, 0, 91, 92, 0, 93, 94, 0, 0, 95, 96, 97, 0, 98, 99, 100, 0, 1, 1, 1, 1, 101, 102, 103, 104, 105, 106, 0, 0, 0, 0, 1, 107, 0]), .inl (0, 7), .inl (0, 5520), .inl (0, 11040), .inl (2, 2), .inl (0, 486), .inl (0, 16), .inl (0, 432), .inl (0, 16), .inl (0, 400), .inl (0, 96), .inl (0, 400), .inl (0, 400), .inl (0, 400), .inl (0, 400), .inl (1, 9), .inl (1, 7), .inl (1, 4), .inl (1, 13), .inl (1, 13), .inl (1, 400), .inl (0, 900), .inl (0, 2048), .inl (0, 8), .inl (1, 14), .inl (1, 4), .inl (0, 96), .inl (0, 16)]
def gb_S (sh : List gb_Sh) : Prop := ∀ (c : Nat) (x : gb_Sh), gb_SH[c]? = some x → sh[c]? = some x
theorem ok_X0_1 {sh : List gb_Sh} (hS : gb_S sh) : gb_okX0 sh 1 := ⟨hS 1 _ rfl, hS 2 _ rfl, hS 3 _ rfl, hS 4 _ rfl, hS 5 _ rfl, hS 6 _ rfl⟩
theorem ok_X0_7 {sh : List gb_Sh} (hS : gb_S sh) : gb_okX0 sh 7 := ⟨hS 7 _ rfl, hS 8 _ rfl, hS 9 _ rfl, hS 10 _ rfl, hS 11 _ rfl, hS 12 _ rfl⟩
theorem ok_X0_13 {sh : List gb_Sh} (hS : gb_S sh) : gb_okX0 sh 13 := ⟨hS 13 _ rfl, hS 14 _ rfl, hS 15 _ rfl, hS 16 _ rfl, hS 17 _ rfl, hS 18 _ rfl⟩
theorem ok_X0_20 {sh : List gb_Sh} (hS : gb_S sh) : gb_okX0 sh 20 := ⟨hS 20 _ rfl, hS 21 _ rfl, hS 22 _ rfl, hS 23 _ rfl, hS 24 _ rfl, hS 25 _ rfl⟩
theorem ok_X0_26 {sh : List gb_Sh} (hS : gb_S sh) : gb_okX0 sh 26 := ⟨hS 26 _ rfl, hS 27 _ rfl, hS 28 _ rfl, hS 29 _ rfl, hS 30 _ rfl, hS 31 _ rfl⟩
theorem ok_X3_33 {sh : List gb_Sh} (hS : gb_S sh) : gb_okX3 sh 33 := ⟨hS 33 _ rfl, hS 34 _ rfl, hS 35 _ rfl, hS 36 _ rfl, hS 37 _ rfl⟩
theorem ok_X3_38 {sh : List gb_Sh} (hS : gb_S sh) : gb_okX3 sh 38 := ⟨hS 38 _ rfl, hS 39 _ rfl, hS 40 _ rfl, hS 41 _ rfl, hS 42 _ rfl⟩
theorem ok_X7_46 {sh : List gb_Sh} (hS : gb_S sh) : gb_okX7 sh 46 := ⟨hS 46 _ rfl, (hS 47 _ rfl).trans (by rw [gb_ln, hS 47 _ rfl]), (hS 48 _ rfl).trans (by rw [gb_ln, hS 48 _ rfl]), (hS 49 _ rfl).trans (by rw [gb_ln, hS 49 _ rfl]), (hS 50 _ rfl).trans (by rw [gb_ln, hS 50 _ rfl]), (hS 51 _ rfl).trans (by rw [gb_ln, hS 51 _ rfl])⟩
theorem ok_X2_61 {sh : List gb_Sh} (hS : gb_S sh) : gb_okX2 sh 61 := hS 61 _ rfl
theorem ok_X2_62 {sh : List gb_Sh} (hS : gb_S sh) : gb_okX2 sh 62 := hS 62 _ rfl
theorem ok_X2_74 {sh : List gb_Sh} (hS : gb_S sh) : gb_okX2 sh 74 := hS 74 _ rfl
noncomputable def gb_oq {β : Type} (sh : List gb_Sh) (w : Option Nat) (b : Option β) : Option β := match w with
  | none => b
  | some a => gb_gdX7 sh a b
theorem gb_oq_e {β : Type} {sh : List gb_Sh} {w : Option Nat} {b : Option β} {o : β} (h : gb_oq sh w b = some o) : (∀ a, w = some a → gb_okX7 sh a) ∧ b = some o := by
  cases w with
  | none => exact ⟨fun a q => (nomatch q), h⟩
  | some p =>
    obtain ⟨h1, h2⟩ := gb_gdX7_e h
    exact ⟨fun a q => by cases q; exact h1, h2⟩
