/-! ===== constructors: over a heap pre ++ L, of which L is what they make ===== -/
theorem gb_at {pre L : List gb_Sh} {c i : Nat} {x : gb_Sh} (hc : pre.length = c) (h : L[i]? = some x) : (pre ++ L)[c + i]? = some x := by
  rw [List.getElem?_append_right (by omega), show c + i - pre.length = i by omega]
  exact h
theorem gb_setP {pre L : List gb_Sh} {c i : Nat} {x : gb_Sh} (hc : pre.length = c) : (pre ++ L).set (c + i) x = pre ++ L.set i x := by
  rw [List.set_append, if_neg (by omega), show c + i - pre.length = i by omega]
section GM
variable {Γ : gb_X} {M : gb_M} {d : Nat} {Q : gb_P} {kc ks : Nat} {pre L : List gb_Sh} {g : gb_G} {pc c n : Nat} {lv : List (Nat × Value)} {st : List Value}
theorem gb_newP {idx ci m : Nat} {ks0 : List Nat} (hc : pre.length = c) (hn : L.length = n) (hf : gb_NW M.1.cls idx ci m ks0) (hkc : 1 ≤ kc) (hks : m ≤ ks) (hdg : decode M.2.1 pc = .ok (.new idx, 3)) (k : gb_J Γ M d Q (kc - 1) (ks - m) (pre ++ (L ++ [.inr (ci, ks0)])) (gb_z g (c + n)) (pc + 3) lv (.ref (c + n) :: st)) : gb_J Γ M d Q kc ks (pre ++ L) g pc lv st := by
  refine gb_new hf hkc hks hdg ?_
  rw [List.append_assoc, List.length_append, hc, hn]
  exact k
theorem gb_newarrP {atype : ArrayType} {t N : Nat} {i : Int32} (hc : pre.length = c) (hn : L.length = n) (hat : newarray.typeOf atype = gb_ty t) (ht : t < 3) (hw : Cond.arrayClass (gb_ty t) ∈ lw_tbl) (hi : ¬ i < 0) (hN : i.toNatClampNeg = N) (hNb : N ≤ 60000) (hkc : 1 ≤ kc) (hks : N ≤ ks) (hdg : decode M.2.1 pc = .ok (.newarray atype, 2)) (k : gb_J Γ M d Q (kc - 1) (ks - N) (pre ++ (L ++ [.inl (t, N)])) (gb_z g (c + n)) (pc + 2) lv (.ref (c + n) :: st)) : gb_J Γ M d Q kc ks (pre ++ L) g pc lv (.int i :: st) := by
  refine gb_newarr hat ht hw hi hN hNb hkc hks hdg ?_
  rw [List.append_assoc, List.length_append, hc, hn]
  exact k
theorem gb_anewP {idx t N : Nat} {C : String} {i : Int32} (hc : pre.length = c) (hn : L.length = n) (hC : gb_ty t = .object C) (ht : t = 3 ∨ t = 4) (hcl : Cond.classLink M.1.cls idx C ∈ lw_tbl) (hw : Cond.arrayOver (.object C) ∈ lw_tbl) (hi : ¬ i < 0) (hN : i.toNatClampNeg = N) (hNb : N ≤ 60000) (hkc : 1 ≤ kc) (hks : N ≤ ks) (hdg : decode M.2.1 pc = .ok (.anewarray idx, 3)) (k : gb_J Γ M d Q (kc - 1) (ks - N) (pre ++ (L ++ [.inl (t, N)])) (gb_z g (c + n)) (pc + 3) lv (.ref (c + n) :: st)) : gb_J Γ M d Q kc ks (pre ++ L) g pc lv (.int i :: st) := by
  refine gb_anew hC ht hcl hw hi hN hNb hkc hks hdg ?_
  rw [List.append_assoc, List.length_append, hc, hn]
  exact k
theorem gb_putrP {idx ci i j r : Nat} {fin : Bool} {t : FieldType} {ks' : List Nat} (hc : pre.length = c) (hs : L[i]? = some (.inr (ci, ks'))) (hf : gb_FL M.1.cls idx ci j fin t) (hfin : fin = true → M.1.name = "<init>" ∧ (vwCl[ci]?).map (fun q => q.1) = some M.1.cls) (hj : j < ks'.length) (hn : ∀ a : Nat, narrow t (.ref a) = .ref a) (hfit : ∀ a : Nat, fits t (.ref a) = true) (hdg : decode M.2.1 pc = .ok (.putfield idx, 3)) (k : gb_J Γ M d Q kc ks (pre ++ L.set i (.inr (ci, ks'.set j (r + 3)))) g (pc + 3) lv st) : gb_J Γ M d Q kc ks (pre ++ L) g pc lv (.ref r :: .ref (c + i) :: st) := by
  refine gb_putr hf hfin (gb_at hc hs) hj hn hfit hdg ?_
  rw [gb_setP hc]
  exact k
/-- what a constructor makes: the heap, and what it holds -/
def gb_Rn (sh : List gb_Sh) (g : gb_G) : gb_P := fun sh' g' v => sh' = sh ∧ g' = g ∧ v = none
end GM
section GN
variable {Γ : gb_X} {M M' : gb_M} {d d' : Nat} {Q : gb_P} {kc ks kc' ks' n : Nat} {sh sh1 : List gb_Sh} {g g1 : gb_G} {pc : Nat} {lv : List (Nat × Value)} {st : List Value}
theorem gb_cIn {idx a : Nat} {As st' rest : List Value} (hw : gb_LI M.1.cls idx M' n) (hC : gb_C Γ M' d' kc' ks' sh g (.ref a :: As) (gb_Rn sh1 g1)) (hd : d' + 1 ≤ d) (hkc : kc' ≤ kc) (hks : ks' ≤ ks) (hn : As.length = n) (hst : st' = As.reverse ++ .ref a :: rest) (hrest : (rest.map fun v => v.category).sum ≤ 8) (hdg : decode M.2.1 pc = .ok (.invokespecial idx, 3)) (k : gb_J Γ M d Q (kc - kc') (ks - ks') sh1 g1 (pc + 3) lv rest) : gb_J Γ M d Q kc ks sh g pc lv st' :=
  gb_cI hw hC hd hkc hks hn hst hrest hdg (fun sh' g' v h => by obtain ⟨rfl, rfl, rfl⟩ := h; exact k)
theorem gb_cINn {idx a : Nat} {As st' rest : List Value} (hw : gb_LIN M.1.cls idx M' n) (hC : gb_C Γ M' d' kc' ks' sh g (.ref a :: As) (gb_Rn sh1 g1)) (hd : d' + 1 ≤ d) (hkc : kc' ≤ kc) (hks : ks' ≤ ks) (hn : As.length = n) (hst : st' = As.reverse ++ .ref a :: rest) (hrest : (rest.map fun v => v.category).sum ≤ 8) (hdg : decode M.2.1 pc = .ok (.invokespecial idx, 3)) (k : gb_J Γ M d Q (kc - kc') (ks - ks') sh1 g1 (pc + 3) lv rest) : gb_J Γ M d Q kc ks sh g pc lv st' :=
  gb_cIN hw hC hd hkc hks hn hst hrest hdg (fun sh' g' v h => by obtain ⟨rfl, rfl, rfl⟩ := h; exact k)
end GN
