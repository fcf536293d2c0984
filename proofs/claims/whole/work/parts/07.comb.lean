/-! ===== what the decompiled methods are written in ===== -/
def gb_N : Nat := 1000000
def gb_let {α β : Type} (a : α) (f : α → β) : β := f a
def gb_bd {α β : Type} (a : Option α) (f : α → Option β) : Option β := match a with
  | none => none
  | some x => f x
def gb_ck {β : Type} (i : Int32) (n : Nat) (b : Option β) : Option β := if ¬ (i < 0 ∨ n ≤ i.toNatClampNeg) then b else none
def gb_nz {β : Type} (y : Int32) (b : Option β) : Option β := if y = 0 then none else b
def gb_nzl {β : Type} (y : Int64) (b : Option β) : Option β := if y = 0 then none else b
def gb_bo {β : Type} (x : Int32) (b : Option β) : Option β := if x = 0 ∨ x = 1 then b else none
def gb_cp {β : Type} (sp dp n : Int32) (n0 n1 : Nat) (b : Option β) : Option β := if ¬ sp < 0 ∧ ¬ dp < 0 ∧ ¬ n < 0 ∧ sp.toNatClampNeg + n.toNatClampNeg ≤ n0 ∧ dp.toNatClampNeg + n.toNatClampNeg ≤ n1 then b else none
def gb_rem (x y : Int32) : Int32 := x - x / y * y
def gb_reml (x y : Int64) : Int64 := x - x / y * y
/-- the length of an array -/
def gb_ln (sh : List gb_Sh) (c : Nat) : Nat := match sh[c]? with
  | some (.inl q) => q.2
  | _ => 0
theorem gb_let_e {α β : Type} {a : α} {f : α → β} {r : β} (h : gb_let a f = r) : f a = r := h
theorem gb_bd_e {α β : Type} {a : Option α} {f : α → Option β} {r : β} (h : gb_bd a f = some r) : ∃ x, a = some x ∧ f x = some r := by
  cases a with
  | none => cases h
  | some x => exact ⟨x, rfl, h⟩
theorem gb_ck_e {β : Type} {i : Int32} {n : Nat} {b : Option β} {r : β} (h : gb_ck i n b = some r) : vp_in i n ∧ b = some r := by
  unfold gb_ck at h
  split at h
  · rename_i q; exact ⟨q, h⟩
  · cases h
theorem gb_nz_e {β : Type} {y : Int32} {b : Option β} {r : β} (h : gb_nz y b = some r) : ¬ y = 0 ∧ b = some r := by
  unfold gb_nz at h
  split at h
  · cases h
  · rename_i q; exact ⟨q, h⟩
theorem gb_nzl_e {β : Type} {y : Int64} {b : Option β} {r : β} (h : gb_nzl y b = some r) : ¬ y = 0 ∧ b = some r := by
  unfold gb_nzl at h
  split at h
  · cases h
  · rename_i q; exact ⟨q, h⟩
theorem gb_bo_e {β : Type} {x : Int32} {b : Option β} {r : β} (h : gb_bo x b = some r) : narrow .boolean (.int x) = .int x ∧ b = some r := by
  unfold gb_bo at h
  split at h
  · rename_i q
    refine ⟨?_, h⟩
    rcases q with rfl | rfl <;> rfl
  · cases h
theorem gb_cp_e {β : Type} {sp dp n : Int32} {n0 n1 : Nat} {b : Option β} {r : β} (h : gb_cp sp dp n n0 n1 b = some r) : (¬ sp < 0 ∧ ¬ dp < 0 ∧ ¬ n < 0 ∧ sp.toNatClampNeg + n.toNatClampNeg ≤ n0 ∧ dp.toNatClampNeg + n.toNatClampNeg ≤ n1) ∧ b = some r := by
  unfold gb_cp at h
  split at h
  · rename_i q; exact ⟨q, h⟩
  · cases h
theorem gb_it {α : Type} {c : Prop} [Decidable c] {a b r : α} (hc : c) (h : (if c then a else b) = r) : a = r := by rw [if_pos hc] at h; exact h
theorem gb_if {α : Type} {c : Prop} [Decidable c] {a b r : α} (hc : ¬ c) (h : (if c then a else b) = r) : b = r := by rw [if_neg hc] at h; exact h
/-- what a method answers: an int, a long, nothing, a cell or null, a cell -/
def gb_Ri (sh : List gb_Sh) (o : gb_G × Int32) : gb_P := fun sh' g' v => sh' = sh ∧ g' = o.1 ∧ v = some (.int o.2)
def gb_Rl (sh : List gb_Sh) (o : gb_G × Int64) : gb_P := fun sh' g' v => sh' = sh ∧ g' = o.1 ∧ v = some (.long o.2)
def gb_Rv (sh : List gb_Sh) (o : gb_G) : gb_P := fun sh' g' v => sh' = sh ∧ g' = o ∧ v = none
def gb_Rq (sh : List gb_Sh) (o : gb_G × Option Nat) : gb_P := fun sh' g' v => sh' = sh ∧ g' = o.1 ∧ v = some (va_rf o.2)
def gb_Rr (sh : List gb_Sh) (r : Nat) (o : gb_G) : gb_P := fun sh' g' v => sh' = sh ∧ g' = o ∧ v = some (.ref r)
section GD
variable {Γ : gb_X} {M M' : gb_M} {d d' : Nat} {Q : gb_P} {kc ks n : Nat} {sh : List gb_Sh} {g : gb_G} {pc : Nat} {lv : List (Nat × Value)} {st : List Value}
theorem gb_pick {lv' : List (Nat × Value)} (is : List Nat) (hp : lv_pick lv is = lv') (k : gb_J Γ M d Q kc ks sh g pc lv' st) : gb_J Γ M d Q kc ks sh g pc lv st := by
  intro p e R s m args below meth c mc ms hx H locs cells slots hH h1 h2 ls hl
  refine k p e R s m args below meth c mc ms hx H locs cells slots hH h1 h2 ls (lv_sub hl is ?_)
  rw [← hp]
  unfold lv_pick gb_lv
  rw [List.map_filterMap]
  congr 1
  funext i
  rw [List.getElem?_map]
theorem gb_rem_ {x y : Int32} (hdg : decode M.2.1 pc = .ok (.irem, 1)) (hne : ¬ y = 0) (k : gb_J Γ M d Q kc ks sh g (pc + 1) lv (.int (gb_rem x y) :: st)) : gb_J Γ M d Q kc ks sh g pc lv (.int y :: .int x :: st) := gb_irem hdg hne k
theorem gb_reml_ {x y : Int64} (hdg : decode M.2.1 pc = .ok (.lrem, 1)) (hne : ¬ y = 0) (k : gb_J Γ M d Q kc ks sh g (pc + 1) lv (.long (gb_reml x y) :: st)) : gb_J Γ M d Q kc ks sh g pc lv (.long y :: .long x :: st) := gb_lrem hdg hne k
theorem gb_iald_ {c n : Nat} {i : Int32} (j : Nat) (hj : i.toNatClampNeg = j) (hs : sh[c]? = some (.inl (0, n))) (hi : vp_in i n) (hdg : decode M.2.1 pc = .ok (.iaload, 1)) (k : gb_J Γ M d Q kc ks sh g (pc + 1) lv (.int (g.1 c j) :: st)) : gb_J Γ M d Q kc ks sh g pc lv (.int i :: .ref c :: st) := by subst hj; exact gb_iald hs hi hdg k
theorem gb_lald_ {c n : Nat} {i : Int32} (j : Nat) (hj : i.toNatClampNeg = j) (hs : sh[c]? = some (.inl (1, n))) (hi : vp_in i n) (hdg : decode M.2.1 pc = .ok (.laload, 1)) (k : gb_J Γ M d Q kc ks sh g (pc + 1) lv (.long (g.2.1 c j) :: st)) : gb_J Γ M d Q kc ks sh g pc lv (.int i :: .ref c :: st) := by subst hj; exact gb_lald hs hi hdg k
theorem gb_zald_ {c n : Nat} {i : Int32} (j : Nat) (hj : i.toNatClampNeg = j) (hs : sh[c]? = some (.inl (2, n))) (hi : vp_in i n) (hdg : decode M.2.1 pc = .ok (.baload, 1)) (k : gb_J Γ M d Q kc ks sh g (pc + 1) lv (.int (g.1 c j) :: st)) : gb_J Γ M d Q kc ks sh g pc lv (.int i :: .ref c :: st) := by subst hj; exact gb_zald hs hi hdg k
theorem gb_aald_ {c n t : Nat} {i : Int32} (j : Nat) (hj : i.toNatClampNeg = j) (ht : t = 3 ∨ t = 4) (hs : sh[c]? = some (.inl (t, n))) (hi : vp_in i n) (hdg : decode M.2.1 pc = .ok (.aaload, 1)) (k : gb_J Γ M d Q kc ks sh g (pc + 1) lv (va_rf (g.2.2 c j) :: st)) : gb_J Γ M d Q kc ks sh g pc lv (.int i :: .ref c :: st) := by subst hj; exact gb_aald ht hs hi hdg k
theorem gb_iast_ {c n : Nat} {i x : Int32} (j : Nat) (hj : i.toNatClampNeg = j) (hs : sh[c]? = some (.inl (0, n))) (hi : vp_in i n) (hdg : decode M.2.1 pc = .ok (.iastore, 1)) (k : gb_J Γ M d Q kc ks sh (gb_pi g c j x) (pc + 1) lv st) : gb_J Γ M d Q kc ks sh g pc lv (.int x :: .int i :: .ref c :: st) := by subst hj; exact gb_iast hs hi hdg k
theorem gb_last_ {c n : Nat} {i : Int32} {x : Int64} (j : Nat) (hj : i.toNatClampNeg = j) (hs : sh[c]? = some (.inl (1, n))) (hi : vp_in i n) (hdg : decode M.2.1 pc = .ok (.lastore, 1)) (k : gb_J Γ M d Q kc ks sh (gb_pj g c j x) (pc + 1) lv st) : gb_J Γ M d Q kc ks sh g pc lv (.long x :: .int i :: .ref c :: st) := by subst hj; exact gb_last hs hi hdg k
theorem gb_zast_ {c n : Nat} {i x : Int32} (j : Nat) (hj : i.toNatClampNeg = j) (hs : sh[c]? = some (.inl (2, n))) (hi : vp_in i n) (hx0 : narrow .boolean (.int x) = .int x) (hdg : decode M.2.1 pc = .ok (.bastore, 1)) (k : gb_J Γ M d Q kc ks sh (gb_pi g c j x) (pc + 1) lv st) : gb_J Γ M d Q kc ks sh g pc lv (.int x :: .int i :: .ref c :: st) := by subst hj; exact gb_zast hs hi hx0 hdg k
theorem gb_aast_ {c n t : Nat} {i : Int32} {r : Option Nat} (j : Nat) (hj : i.toNatClampNeg = j) (ht : t = 3 ∨ t = 4) (hs : sh[c]? = some (.inl (t, n))) (hi : vp_in i n) (hr : ∀ a, r = some a → ∃ (ci : Nat) (ks0 : List Nat) (q : vw_C), sh[a]? = some (.inr (ci, ks0)) ∧ vwCl[ci]? = some q ∧ gb_ty t = .object q.1) (hdg : decode M.2.1 pc = .ok (.aastore, 1)) (k : gb_J Γ M d Q kc ks sh (gb_pr g c j r) (pc + 1) lv st) : gb_J Γ M d Q kc ks sh g pc lv (va_rf r :: .int i :: .ref c :: st) := by subst hj; exact gb_aast ht hs hi hr hdg k
theorem gb_cVi {idx a ci : Nat} {ks0 : List Nat} {As st' rest : List Value} {o : gb_G × Int32} (hw : gb_LV M.1.cls idx M' n) (hC : gb_C Γ M' d' 0 0 sh g (.ref a :: As) (gb_Ri sh o)) (hs : sh[a]? = some (.inr (ci, ks0))) (hci : (vwCl[ci]?).map (fun q => q.1) = some M'.1.cls) (hd : d' + 1 ≤ d) (hn : As.length = n) (hst : st' = As.reverse ++ .ref a :: rest) (hrest : (rest.map fun v => v.category).sum ≤ 8) (hdg : decode M.2.1 pc = .ok (.invokevirtual idx, 3)) (k : gb_J Γ M d Q kc ks sh o.1 (pc + 3) lv (.int o.2 :: rest)) : gb_J Γ M d Q kc ks sh g pc lv st' := gb_cV hw hC hs hci hd (Nat.zero_le _) (Nat.zero_le _) hn hst hrest hdg (fun sh' g' v h => by obtain ⟨rfl, rfl, rfl⟩ := h; exact k)
theorem gb_cSi {idx : Nat} {As st' rest : List Value} {o : gb_G × Int32} (hw : gb_LS M.1.cls idx M' n) (hC : gb_C Γ M' d' 0 0 sh g As (gb_Ri sh o)) (hd : d' + 1 ≤ d) (hn : As.length = n) (hst : st' = As.reverse ++ rest) (hrest : (rest.map fun v => v.category).sum ≤ 8) (hdg : decode M.2.1 pc = .ok (.invokestatic idx, 3)) (k : gb_J Γ M d Q kc ks sh o.1 (pc + 3) lv (.int o.2 :: rest)) : gb_J Γ M d Q kc ks sh g pc lv st' := gb_cS hw hC hd (Nat.zero_le _) (Nat.zero_le _) hn hst hrest hdg (fun sh' g' v h => by obtain ⟨rfl, rfl, rfl⟩ := h; exact k)
theorem gb_cSNi {idx : Nat} {As st' rest : List Value} {o : gb_G × Int32} (hw : gb_LSN M.1.cls idx M' n) (hC : gb_C Γ M' d' 0 0 sh g As (gb_Ri sh o)) (hd : d' + 1 ≤ d) (hn : As.length = n) (hst : st' = As.reverse ++ rest) (hrest : (rest.map fun v => v.category).sum ≤ 8) (hdg : decode M.2.1 pc = .ok (.invokestatic idx, 3)) (k : gb_J Γ M d Q kc ks sh o.1 (pc + 3) lv (.int o.2 :: rest)) : gb_J Γ M d Q kc ks sh g pc lv st' := gb_cSN hw hC hd (Nat.zero_le _) (Nat.zero_le _) hn hst hrest hdg (fun sh' g' v h => by obtain ⟨rfl, rfl, rfl⟩ := h; exact k)
theorem gb_cVl {idx a ci : Nat} {ks0 : List Nat} {As st' rest : List Value} {o : gb_G × Int64} (hw : gb_LV M.1.cls idx M' n) (hC : gb_C Γ M' d' 0 0 sh g (.ref a :: As) (gb_Rl sh o)) (hs : sh[a]? = some (.inr (ci, ks0))) (hci : (vwCl[ci]?).map (fun q => q.1) = some M'.1.cls) (hd : d' + 1 ≤ d) (hn : As.length = n) (hst : st' = As.reverse ++ .ref a :: rest) (hrest : (rest.map fun v => v.category).sum ≤ 8) (hdg : decode M.2.1 pc = .ok (.invokevirtual idx, 3)) (k : gb_J Γ M d Q kc ks sh o.1 (pc + 3) lv (.long o.2 :: rest)) : gb_J Γ M d Q kc ks sh g pc lv st' := gb_cV hw hC hs hci hd (Nat.zero_le _) (Nat.zero_le _) hn hst hrest hdg (fun sh' g' v h => by obtain ⟨rfl, rfl, rfl⟩ := h; exact k)
theorem gb_cSl {idx : Nat} {As st' rest : List Value} {o : gb_G × Int64} (hw : gb_LS M.1.cls idx M' n) (hC : gb_C Γ M' d' 0 0 sh g As (gb_Rl sh o)) (hd : d' + 1 ≤ d) (hn : As.length = n) (hst : st' = As.reverse ++ rest) (hrest : (rest.map fun v => v.category).sum ≤ 8) (hdg : decode M.2.1 pc = .ok (.invokestatic idx, 3)) (k : gb_J Γ M d Q kc ks sh o.1 (pc + 3) lv (.long o.2 :: rest)) : gb_J Γ M d Q kc ks sh g pc lv st' := gb_cS hw hC hd (Nat.zero_le _) (Nat.zero_le _) hn hst hrest hdg (fun sh' g' v h => by obtain ⟨rfl, rfl, rfl⟩ := h; exact k)
theorem gb_cSNl {idx : Nat} {As st' rest : List Value} {o : gb_G × Int64} (hw : gb_LSN M.1.cls idx M' n) (hC : gb_C Γ M' d' 0 0 sh g As (gb_Rl sh o)) (hd : d' + 1 ≤ d) (hn : As.length = n) (hst : st' = As.reverse ++ rest) (hrest : (rest.map fun v => v.category).sum ≤ 8) (hdg : decode M.2.1 pc = .ok (.invokestatic idx, 3)) (k : gb_J Γ M d Q kc ks sh o.1 (pc + 3) lv (.long o.2 :: rest)) : gb_J Γ M d Q kc ks sh g pc lv st' := gb_cSN hw hC hd (Nat.zero_le _) (Nat.zero_le _) hn hst hrest hdg (fun sh' g' v h => by obtain ⟨rfl, rfl, rfl⟩ := h; exact k)
theorem gb_cVv {idx a ci : Nat} {ks0 : List Nat} {As st' rest : List Value} {o : gb_G} (hw : gb_LV M.1.cls idx M' n) (hC : gb_C Γ M' d' 0 0 sh g (.ref a :: As) (gb_Rv sh o)) (hs : sh[a]? = some (.inr (ci, ks0))) (hci : (vwCl[ci]?).map (fun q => q.1) = some M'.1.cls) (hd : d' + 1 ≤ d) (hn : As.length = n) (hst : st' = As.reverse ++ .ref a :: rest) (hrest : (rest.map fun v => v.category).sum ≤ 8) (hdg : decode M.2.1 pc = .ok (.invokevirtual idx, 3)) (k : gb_J Γ M d Q kc ks sh o (pc + 3) lv (rest)) : gb_J Γ M d Q kc ks sh g pc lv st' := gb_cV hw hC hs hci hd (Nat.zero_le _) (Nat.zero_le _) hn hst hrest hdg (fun sh' g' v h => by obtain ⟨rfl, rfl, rfl⟩ := h; exact k)
theorem gb_cSv {idx : Nat} {As st' rest : List Value} {o : gb_G} (hw : gb_LS M.1.cls idx M' n) (hC : gb_C Γ M' d' 0 0 sh g As (gb_Rv sh o)) (hd : d' + 1 ≤ d) (hn : As.length = n) (hst : st' = As.reverse ++ rest) (hrest : (rest.map fun v => v.category).sum ≤ 8) (hdg : decode M.2.1 pc = .ok (.invokestatic idx, 3)) (k : gb_J Γ M d Q kc ks sh o (pc + 3) lv (rest)) : gb_J Γ M d Q kc ks sh g pc lv st' := gb_cS hw hC hd (Nat.zero_le _) (Nat.zero_le _) hn hst hrest hdg (fun sh' g' v h => by obtain ⟨rfl, rfl, rfl⟩ := h; exact k)
theorem gb_cSNv {idx : Nat} {As st' rest : List Value} {o : gb_G} (hw : gb_LSN M.1.cls idx M' n) (hC : gb_C Γ M' d' 0 0 sh g As (gb_Rv sh o)) (hd : d' + 1 ≤ d) (hn : As.length = n) (hst : st' = As.reverse ++ rest) (hrest : (rest.map fun v => v.category).sum ≤ 8) (hdg : decode M.2.1 pc = .ok (.invokestatic idx, 3)) (k : gb_J Γ M d Q kc ks sh o (pc + 3) lv (rest)) : gb_J Γ M d Q kc ks sh g pc lv st' := gb_cSN hw hC hd (Nat.zero_le _) (Nat.zero_le _) hn hst hrest hdg (fun sh' g' v h => by obtain ⟨rfl, rfl, rfl⟩ := h; exact k)
theorem gb_cVq {idx a ci : Nat} {ks0 : List Nat} {As st' rest : List Value} {o : gb_G × Option Nat} (hw : gb_LV M.1.cls idx M' n) (hC : gb_C Γ M' d' 0 0 sh g (.ref a :: As) (gb_Rq sh o)) (hs : sh[a]? = some (.inr (ci, ks0))) (hci : (vwCl[ci]?).map (fun q => q.1) = some M'.1.cls) (hd : d' + 1 ≤ d) (hn : As.length = n) (hst : st' = As.reverse ++ .ref a :: rest) (hrest : (rest.map fun v => v.category).sum ≤ 8) (hdg : decode M.2.1 pc = .ok (.invokevirtual idx, 3)) (k : gb_J Γ M d Q kc ks sh o.1 (pc + 3) lv (va_rf o.2 :: rest)) : gb_J Γ M d Q kc ks sh g pc lv st' := gb_cV hw hC hs hci hd (Nat.zero_le _) (Nat.zero_le _) hn hst hrest hdg (fun sh' g' v h => by obtain ⟨rfl, rfl, rfl⟩ := h; exact k)
theorem gb_cSq {idx : Nat} {As st' rest : List Value} {o : gb_G × Option Nat} (hw : gb_LS M.1.cls idx M' n) (hC : gb_C Γ M' d' 0 0 sh g As (gb_Rq sh o)) (hd : d' + 1 ≤ d) (hn : As.length = n) (hst : st' = As.reverse ++ rest) (hrest : (rest.map fun v => v.category).sum ≤ 8) (hdg : decode M.2.1 pc = .ok (.invokestatic idx, 3)) (k : gb_J Γ M d Q kc ks sh o.1 (pc + 3) lv (va_rf o.2 :: rest)) : gb_J Γ M d Q kc ks sh g pc lv st' := gb_cS hw hC hd (Nat.zero_le _) (Nat.zero_le _) hn hst hrest hdg (fun sh' g' v h => by obtain ⟨rfl, rfl, rfl⟩ := h; exact k)
theorem gb_cSNq {idx : Nat} {As st' rest : List Value} {o : gb_G × Option Nat} (hw : gb_LSN M.1.cls idx M' n) (hC : gb_C Γ M' d' 0 0 sh g As (gb_Rq sh o)) (hd : d' + 1 ≤ d) (hn : As.length = n) (hst : st' = As.reverse ++ rest) (hrest : (rest.map fun v => v.category).sum ≤ 8) (hdg : decode M.2.1 pc = .ok (.invokestatic idx, 3)) (k : gb_J Γ M d Q kc ks sh o.1 (pc + 3) lv (va_rf o.2 :: rest)) : gb_J Γ M d Q kc ks sh g pc lv st' := gb_cSN hw hC hd (Nat.zero_le _) (Nat.zero_le _) hn hst hrest hdg (fun sh' g' v h => by obtain ⟨rfl, rfl, rfl⟩ := h; exact k)
theorem gb_cVr {idx a ci : Nat} {ks0 : List Nat} {As st' rest : List Value} {o : gb_G} {r : Nat} (hw : gb_LV M.1.cls idx M' n) (hC : gb_C Γ M' d' 0 0 sh g (.ref a :: As) (gb_Rr sh r o)) (hs : sh[a]? = some (.inr (ci, ks0))) (hci : (vwCl[ci]?).map (fun q => q.1) = some M'.1.cls) (hd : d' + 1 ≤ d) (hn : As.length = n) (hst : st' = As.reverse ++ .ref a :: rest) (hrest : (rest.map fun v => v.category).sum ≤ 8) (hdg : decode M.2.1 pc = .ok (.invokevirtual idx, 3)) (k : gb_J Γ M d Q kc ks sh o (pc + 3) lv (.ref r :: rest)) : gb_J Γ M d Q kc ks sh g pc lv st' := gb_cV hw hC hs hci hd (Nat.zero_le _) (Nat.zero_le _) hn hst hrest hdg (fun sh' g' v h => by obtain ⟨rfl, rfl, rfl⟩ := h; exact k)
theorem gb_cSr {idx : Nat} {As st' rest : List Value} {o : gb_G} {r : Nat} (hw : gb_LS M.1.cls idx M' n) (hC : gb_C Γ M' d' 0 0 sh g As (gb_Rr sh r o)) (hd : d' + 1 ≤ d) (hn : As.length = n) (hst : st' = As.reverse ++ rest) (hrest : (rest.map fun v => v.category).sum ≤ 8) (hdg : decode M.2.1 pc = .ok (.invokestatic idx, 3)) (k : gb_J Γ M d Q kc ks sh o (pc + 3) lv (.ref r :: rest)) : gb_J Γ M d Q kc ks sh g pc lv st' := gb_cS hw hC hd (Nat.zero_le _) (Nat.zero_le _) hn hst hrest hdg (fun sh' g' v h => by obtain ⟨rfl, rfl, rfl⟩ := h; exact k)
theorem gb_cSNr {idx : Nat} {As st' rest : List Value} {o : gb_G} {r : Nat} (hw : gb_LSN M.1.cls idx M' n) (hC : gb_C Γ M' d' 0 0 sh g As (gb_Rr sh r o)) (hd : d' + 1 ≤ d) (hn : As.length = n) (hst : st' = As.reverse ++ rest) (hrest : (rest.map fun v => v.category).sum ≤ 8) (hdg : decode M.2.1 pc = .ok (.invokestatic idx, 3)) (k : gb_J Γ M d Q kc ks sh o (pc + 3) lv (.ref r :: rest)) : gb_J Γ M d Q kc ks sh g pc lv st' := gb_cSN hw hC hd (Nat.zero_le _) (Nat.zero_le _) hn hst hrest hdg (fun sh' g' v h => by obtain ⟨rfl, rfl, rfl⟩ := h; exact k)
theorem gb_qload_n {j : Fin 4} {r : Option Nat} (hdg : decode M.2.1 pc = .ok (.aload_n j, 1)) (hv : lv.lookup (j : Nat) = some (va_rf r)) (k : gb_J Γ M d Q kc ks sh g (pc + 1) lv (va_rf r :: st)) : gb_J Γ M d Q kc ks sh g pc lv st := by
  intro p e R s m args below meth c mc ms hx H locs cells slots hH h1 h2 ls hl
  cases r with
  | none => exact lv_aload_nN hx.1 hx.2.1 hdg rfl (gb_lk hl hv) (k p e R s m args below meth c mc ms hx H locs cells slots hH h1 h2 ls hl)
  | some a => exact lv_aload_n hx.1 hx.2.1 hdg rfl (gb_lk hl hv) (k p e R s m args below meth c mc ms hx H locs cells slots hH h1 h2 ls hl)
theorem gb_qload {j : Nat} {r : Option Nat} (hdg : decode M.2.1 pc = .ok (.aload j, 2)) (hv : lv.lookup j = some (va_rf r)) (k : gb_J Γ M d Q kc ks sh g (pc + 2) lv (va_rf r :: st)) : gb_J Γ M d Q kc ks sh g pc lv st := by
  intro p e R s m args below meth c mc ms hx H locs cells slots hH h1 h2 ls hl
  cases r with
  | none => exact lv_aloadN hx.1 hx.2.1 hdg (gb_lk hl hv) (k p e R s m args below meth c mc ms hx H locs cells slots hH h1 h2 ls hl)
  | some a => exact lv_aload hx.1 hx.2.1 hdg (gb_lk hl hv) (k p e R s m args below meth c mc ms hx H locs cells slots hH h1 h2 ls hl)
theorem gb_qstore_n {j : Fin 4} {r : Option Nat} (lv' : List (Nat × Value)) (hdg : decode M.2.1 pc = .ok (.astore_n j, 1)) (hn : (j : Nat) < M.2.2.1) (hv : ((j : Nat), va_rf r) :: lv.filter (fun q => !(q.1 == (j : Nat)) && !(q.1 + 1 == (j : Nat) && q.2.category == 2)) = lv') (k : gb_J Γ M d Q kc ks sh g (pc + 1) lv' st) : gb_J Γ M d Q kc ks sh g pc lv (va_rf r :: st) := by
  cases r with
  | none =>
    intro p e R s m args below meth c mc ms hx H locs cells slots hH h1 h2 ls hl
    refine lv_astore_nN (lv' := gb_lv Γ lv') hx.1 hx.2.1 hdg rfl hl hn ?_ (fun ls' hl' => k p e R s m args below meth c mc ms hx H locs cells slots hH h1 h2 ls' hl')
    rw [← hv, gb_lv_filter Γ lv (fun a b => !(a == (j : Nat)) && !(a + 1 == (j : Nat) && b == 2))]
    rfl
  | some a => exact gb_astore_n lv' hdg hn hv k
theorem gb_qstore {j : Nat} {r : Option Nat} (lv' : List (Nat × Value)) (hdg : decode M.2.1 pc = .ok (.astore j, 2)) (hn : j < M.2.2.1) (hv : (j, va_rf r) :: lv.filter (fun q => !(q.1 == j) && !(q.1 + 1 == j && q.2.category == 2)) = lv') (k : gb_J Γ M d Q kc ks sh g (pc + 2) lv' st) : gb_J Γ M d Q kc ks sh g pc lv (va_rf r :: st) := by
  cases r with
  | none =>
    intro p e R s m args below meth c mc ms hx H locs cells slots hH h1 h2 ls hl
    refine lv_astoreN (lv' := gb_lv Γ lv') hx.1 hx.2.1 hdg hl hn ?_ (fun ls' hl' => k p e R s m args below meth c mc ms hx H locs cells slots hH h1 h2 ls' hl')
    rw [← hv, gb_lv_filter Γ lv (fun a b => !(a == j) && !(a + 1 == j && b == 2))]
    rfl
  | some a => exact gb_astore lv' hdg hn hv k
theorem gb_tabI {dflt lo hi off : Int} {offs : Array Int} {len : Nat} {x kx : Int32} (tgt : Nat) (hx0 : x = kx) (hdg : decode M.2.1 pc = .ok (.tableswitch dflt lo hi offs, len)) (h1 : ¬ kx.toInt < lo) (h2 : ¬ hi < kx.toInt) (ho : offs[(kx.toInt - lo).toNat]? = some off) (ht : (pc : Int) + off = (tgt : Int)) (k : gb_J Γ M d Q kc ks sh g tgt lv st) : gb_J Γ M d Q kc ks sh g pc lv (.int x :: st) := by
  subst hx0
  exact gb_table hdg (fun h => absurd h (by intro q; rcases q with q | q; exact h1 q; exact h2 q)) (fun _ _ => ⟨off, tgt, ho, ht, k⟩)
theorem gb_tabO {dflt lo hi : Int} {offs : Array Int} {len : Nat} {x : Int32} (tgt : Nat) (hdg : decode M.2.1 pc = .ok (.tableswitch dflt lo hi offs, len)) (h : x.toInt < lo ∨ hi < x.toInt) (ht : (pc : Int) + dflt = (tgt : Int)) (k : gb_J Γ M d Q kc ks sh g tgt lv st) : gb_J Γ M d Q kc ks sh g pc lv (.int x :: st) :=
  gb_table hdg (fun _ => ⟨tgt, ht, k⟩) (fun q1 q2 => absurd h (by intro q; rcases q with q | q; exact q1 q; exact q2 q))
end GD
theorem gb_out {x : Int32} {lo hi : Int} (n : Nat) (hlo : -2147483648 ≤ lo) (hhi : hi ≤ 2147483647) (hn : hi + 1 = lo + (n : Int)) (h : ∀ i, i < n → ¬ x = Int32.ofInt (lo + (i : Int))) : x.toInt < lo ∨ hi < x.toInt := by
  by_cases h1 : x.toInt < lo
  · exact Or.inl h1
  · by_cases h2 : hi < x.toInt
    · exact Or.inr h2
    · exfalso
      refine h (x.toInt - lo).toNat (by omega) ?_
      have e : lo + (((x.toInt - lo).toNat : Nat) : Int) = x.toInt := by omega
      rw [e, Int32.ofInt_toInt]
theorem gb_rfc (r : Option Nat) : va_rf r = .null ∨ ∃ a, va_rf r = .ref a := by
  cases r with
  | none => exact Or.inl rfl
  | some a => exact Or.inr ⟨a, rfl⟩
set_option maxHeartbeats 1000000 in
theorem gb_C.ofF {Γ : gb_X} {M : gb_M} {d kc ks : Nat} {sh : List gb_Sh} {g : gb_G} {As : List Value} {Q : gb_P} (hy : plainFor M.1 = true) (hn : (lg_sl As).length ≤ M.2.2.1)
    (h : gb_J Γ M d Q kc ks sh g 0 (lv_args 0 As) []) : gb_C Γ M d kc ks sh g As Q := by
  obtain ⟨y, cc, maxL, ret⟩ := M
  unfold gb_C Met
  refine MetFree.of_bodySF (code := cc) (maxLocals := maxL) (ret := ret) hy ?_ ?_
  · intro args s m h hn
    obtain ⟨meth, c, h1, h2, h3, h4, h5, h6, -, -⟩ := Cond.code_spec hn (atoms_spec (ws := gb_ws (y, cc, maxL, ret)) h _ List.mem_cons_self)
    exact ⟨meth, c, h1, h2, h3, h4, h5, h6⟩
  · intro p e s m args below meth c s₁ B hml hv _
    obtain ⟨rfl, hH, hK⟩ := hv
    have hh0 : s₁.heap = s.heap := by rw [B.state]; rfl
    have hx : gb_Cx Γ (y, cc, maxL, ret) d p (gb_rm d kc ks) s m meth c kc ks :=
      ⟨B.exec, B.bytes, B.returns, hml, findClass_of_methodNamed B.named, B.notSynchronized, (name_of_methodNamed B.named B.method).1, hK, Nat.le_refl _, Nat.le_refl _, Nat.le_refl _, Nat.le_refl _⟩
    have hl := lv_entry (As.map (gb_cv Γ)) (n := maxL) (by rw [gb_sl_len]; exact hn)
    rw [gb_lv_args] at hl
    have K := h p e (gb_rm d kc ks) s m (As.map (gb_cv Γ)).toArray below meth c kc ks hx s.heap [] 0 0 hH (by simp) (by simp) _ hl
    have K2 : W p Γ.1 e (gb_rm d kc ks) s m (As.map (gb_cv Γ)).toArray below meth c s.heap [] 0 0 (MQ below (gb_Q Γ Q) (As.map (gb_cv Γ)).toArray s kc ks (fun q => gb_sz Γ ≤ q)) (entryFrame m (As.map (gb_cv Γ)).toArray maxL) := by
      rw [lg_entry_eq]
      exact K
    obtain ⟨t, a1, o, b1, b2, b3⟩ := K2 s₁ hh0 (Stand.of_body B)
    exact ⟨t, o, a1, b1, b2, ⟨b3.1, b3.2⟩⟩
theorem gb_rf_cat (r : Option Nat) : (va_rf r).category = 1 := by cases r <;> rfl
noncomputable def gb_nr {β : Type} (ty : FieldType) (x : Int32) (b : Option β) : Option β := @ite _ (narrow ty (.int x) = .int x) (Classical.propDecidable _) b none
theorem gb_nr_e {β : Type} {ty : FieldType} {x : Int32} {b : Option β} {r : β} (h : gb_nr ty x b = some r) : narrow ty (.int x) = .int x ∧ b = some r := by
  unfold gb_nr at h
  split at h
  · rename_i q; exact ⟨q, h⟩
  · cases h
theorem gb_ni {x : Int32} {k : Int} (hk : (Int32.ofInt k).toInt = k) (h : ¬ x = Int32.ofInt k) : ¬ k = x.toInt := by
  intro e
  apply h
  rw [e, Int32.ofInt_toInt]
section GE
variable {Γ : gb_X} {M M' : gb_M} {d d' : Nat} {Q : gb_P} {kc ks n : Nat} {sh : List gb_Sh} {g : gb_G} {pc : Nat} {lv : List (Nat × Value)} {st : List Value}
theorem gb_lkI {dflt off : Int} {ps : Array (Int × Int)} {len : Nat} {x kx : Int32} (tgt : Nat) (hx0 : x = kx) (hdg : decode M.2.1 pc = .ok (.lookupswitch dflt ps, len)) (hp : (ps.toList.zip (ps.toList.drop 1)).all (fun (a, next) => a.1 < next.1) = true) (ho : Op.lookupswitch.offset ps.toList dflt kx.toInt = off) (ht : (pc : Int) + off = (tgt : Int)) (k : gb_J Γ M d Q kc ks sh g tgt lv st) : gb_J Γ M d Q kc ks sh g pc lv (.int x :: st) := by
  subst hx0
  exact gb_lookup tgt hdg hp ho ht k
theorem gb_cVSi {idx i : Nat} {As st' rest : List Value} {o : gb_G × Int32} (hi : i < 13) (hcl : M'.1.cls = "java/lang/String") (hw : gb_LV M.1.cls idx M' n) (hC : gb_C Γ M' d' 0 0 sh g (.retAddr (2 + i) :: As) (gb_Ri sh o)) (hd : d' + 1 ≤ d) (hn : As.length = n) (hst : st' = As.reverse ++ .retAddr (2 + i) :: rest) (hrest : (rest.map fun v => v.category).sum ≤ 8) (hdg : decode M.2.1 pc = .ok (.invokevirtual idx, 3)) (k : gb_J Γ M d Q kc ks sh o.1 (pc + 3) lv (.int o.2 :: rest)) : gb_J Γ M d Q kc ks sh g pc lv st' := gb_cVS hi hcl hw hC hd (Nat.zero_le _) (Nat.zero_le _) hn hst hrest hdg (fun sh' g' v h => by obtain ⟨rfl, rfl, rfl⟩ := h; exact k)
end GE
theorem gb_bo_e2 {β : Type} {x : Int32} {b : Option β} {r : β} (h : gb_bo x b = some r) : narrow .boolean (.int x) = .int x ∧ fits .boolean (.int x) = true ∧ b = some r := by
  unfold gb_bo at h
  split at h
  · rename_i q
    refine ⟨?_, ?_, h⟩
    · rcases q with rfl | rfl <;> rfl
    · rcases q with rfl | rfl <;> rfl
  · cases h
