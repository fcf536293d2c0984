/-! ===== what is only read: the static table, the String constants ===== -/
theorem gb_old {Γ : gb_X} {sh : List gb_Sh} {g : gb_G} {H : Heap} {locs : List Loc} (hH : gb_H Γ sh g H locs) {a : Nat} {cell : Cell} (h : Γ.2.2.2.1.heap[a]? = some cell) : H[a]? = some cell := by
  rw [hH.2.2.1 a (Array.getElem?_eq_some_iff.mp h).1]
  exact h
section GRO
variable {Γ : gb_X} {M M' : gb_M} {d d' : Nat} {Q Q' : gb_P} {kc ks kc' ks' n : Nat} {sh : List gb_Sh} {g : gb_G} {pc : Nat} {lv : List (Nat × Value)} {st : List Value}
theorem gb_gst {C nm dd : String} {idx : Nat} {v : Value} (hZ : gb_RO Γ → va_Z C nm dd (gb_cv Γ v) (fun q => gb_sz Γ ≤ q) Γ.2.2.2.1 Γ.2.2.2.1.heap) (hw : Cond.fieldLink M.1.cls idx C nm dd ∈ lw_tbl) (hdg : decode M.2.1 pc = .ok (.getstatic idx, 3)) (k : gb_J Γ M d Q kc ks sh g (pc + 3) lv (v :: st)) : gb_J Γ M d Q kc ks sh g pc lv st := by
  intro p e R s m args below meth c mc ms hx H locs cells slots hH h1 h2 ls hl
  obtain ⟨x1, x2, x3, x4, x5, x6, x7, hK, x9, x10, x11, x12⟩ := id hx
  obtain ⟨cf, kf, fi, f, a, cell, g1, g2, g3, g4, g5, g6, g7, g8⟩ := va_Z.moved hK.2.2.alike (hZ hK.1.2)
  exact W.gets x1 x2 x5 (hK.word hw rfl args) g1 g2 g3 g4 (gb_old hH g5) (fun e => by rw [e] at g6; cases g6) g7 rfl hdg (k p e R s m args below meth c mc ms hx H locs cells slots hH h1 h2 ls hl)
theorem gb_gstq {C nm dd : String} {idx : Nat} {v0 v1 : Value} (hZ : gb_RO Γ → va_Z C nm dd (gb_cv Γ v0) (fun q => gb_sz Γ ≤ q) Γ.2.2.2.1 Γ.2.2.2.1.heap ∨ va_Z C nm dd (gb_cv Γ v1) (fun q => gb_sz Γ ≤ q) Γ.2.2.2.1 Γ.2.2.2.1.heap) (h0 : v0.category = 1) (h1 : v1.category = 1) (hw : Cond.fieldLink M.1.cls idx C nm dd ∈ lw_tbl) (hdg : decode M.2.1 pc = .ok (.getstatic idx, 3)) (k : ∀ v : Value, v.category = 1 → gb_J Γ M d Q kc ks sh g (pc + 3) lv (v :: st)) : gb_J Γ M d Q kc ks sh g pc lv st := by
  intro p e R s m args below meth c mc ms hx H locs cells slots hH q1 q2 ls hl
  rcases hZ (hx.2.2.2.2.2.2.2.1).1.2 with hz | hz
  · exact gb_gst (fun _ => hz) hw hdg (k v0 h0) p e R s m args below meth c mc ms hx H locs cells slots hH q1 q2 ls hl
  · exact gb_gst (fun _ => hz) hw hdg (k v1 h1) p e R s m args below meth c mc ms hx H locs cells slots hH q1 q2 ls hl
theorem gb_rget {o nm dd : String} {idx j : Nat} {v : Value} (hE : gb_RO Γ → va_OF o nm dd (gb_cv Γ v) (Γ.2.2.2.2 j) (fun q => gb_sz Γ ≤ q) Γ.2.2.2.1 Γ.2.2.2.1.heap) (hw : Cond.fieldLink M.1.cls idx o nm dd ∈ lw_tbl) (hdg : decode M.2.1 pc = .ok (.getfield idx, 3)) (k : gb_J Γ M d Q kc ks sh g (pc + 3) lv (v :: st)) : gb_J Γ M d Q kc ks sh g pc lv (.retAddr j :: st) := by
  intro p e R s m args below meth c mc ms hx H locs cells slots hH h1 h2 ls hl
  obtain ⟨x1, x2, x3, x4, x5, x6, x7, hK, x9, x10, x11, x12⟩ := id hx
  obtain ⟨cf, kf, fi, f, cell, g1, g2, g3, g4, g5, g6⟩ := va_OF.moved hK.2.2.alike (hE hK.1.2)
  exact W.getf x1 x2 x5 (hK.word hw rfl args) g1 g2 (gb_old hH g3) g4 (v := gb_cv Γ v) g5 rfl rfl hdg (k p e R s m args below meth c mc ms hx H locs cells slots hH h1 h2 ls hl)
theorem gb_rin {i : Int32} {N n : Nat} (hi : vp_in i N) (h : N ≤ n) : ¬ (i < 0 ∨ n ≤ i.toNatClampNeg) := by
  intro q
  rcases q with q | q
  · exact hi (Or.inl q)
  · exact hi (Or.inr (Nat.le_trans h q))
theorem gb_rbald {j N : Nat} {f : Nat → Int32} {i : Int32} (hT : gb_RO Γ → va_T .byte (Γ.2.2.2.2 j) N (fun k => .int (f k)) (fun q => gb_sz Γ ≤ q) Γ.2.2.2.1 Γ.2.2.2.1.heap) (hi : vp_in i N) (hdg : decode M.2.1 pc = .ok (.baload, 1)) (k : gb_J Γ M d Q kc ks sh g (pc + 1) lv (.int (f i.toNatClampNeg) :: st)) : gb_J Γ M d Q kc ks sh g pc lv (.int i :: .retAddr j :: st) := by
  intro p e R s m args below meth c mc ms hx H locs cells slots hH h1 h2 ls hl
  obtain ⟨cell, g1, g2, g3, g4, g5, g6, g7⟩ := va_T.moved (hx.2.2.2.2.2.2.2.1).2.2.alike (hT (hx.2.2.2.2.2.2.2.1).1.2)
  have hlt : i.toNatClampNeg < N := Nat.not_le.mp fun q => hi (Or.inr q)
  exact W.bald (v := .int (f i.toNatClampNeg)) hx.1 hx.2.1 (gb_old hH g1) g2 g3 (gb_rin hi g4) (g6 _ hlt) rfl rfl hdg (k p e R s m args below meth c mc ms hx H locs cells slots hH h1 h2 ls hl)
theorem gb_riald {j N : Nat} {f : Nat → Int32} {i : Int32} (hT : gb_RO Γ → va_T .int (Γ.2.2.2.2 j) N (fun k => .int (f k)) (fun q => gb_sz Γ ≤ q) Γ.2.2.2.1 Γ.2.2.2.1.heap) (hi : vp_in i N) (hdg : decode M.2.1 pc = .ok (.iaload, 1)) (k : gb_J Γ M d Q kc ks sh g (pc + 1) lv (.int (f i.toNatClampNeg) :: st)) : gb_J Γ M d Q kc ks sh g pc lv (.int i :: .retAddr j :: st) := by
  intro p e R s m args below meth c mc ms hx H locs cells slots hH h1 h2 ls hl
  obtain ⟨cell, g1, g2, g3, g4, g5, g6, g7⟩ := va_T.moved (hx.2.2.2.2.2.2.2.1).2.2.alike (hT (hx.2.2.2.2.2.2.2.1).1.2)
  have hlt : i.toNatClampNeg < N := Nat.not_le.mp fun q => hi (Or.inr q)
  exact W.iald (v := .int (f i.toNatClampNeg)) hx.1 hx.2.1 (gb_old hH g1) g2 g3 (gb_rin hi g4) (g6 _ hlt) rfl rfl hdg (k p e R s m args below meth c mc ms hx H locs cells slots hH h1 h2 ls hl)
theorem gb_rlen {j N : Nat} {f : Nat → Value} {ty : FieldType} (hT : gb_RO Γ → va_T ty (Γ.2.2.2.2 j) N f (fun q => gb_sz Γ ≤ q) Γ.2.2.2.1 Γ.2.2.2.1.heap) (hdg : decode M.2.1 pc = .ok (.arraylength, 1)) (k : gb_J Γ M d Q kc ks sh g (pc + 1) lv (.int (Int32.ofNat N) :: st)) : gb_J Γ M d Q kc ks sh g pc lv (.retAddr j :: st) := by
  intro p e R s m args below meth c mc ms hx H locs cells slots hH h1 h2 ls hl
  obtain ⟨cell, g1, g2, g3, g4, g5, g6, g7⟩ := va_T.moved (hx.2.2.2.2.2.2.2.1).2.2.alike (hT (hx.2.2.2.2.2.2.2.1).1.2)
  exact W.alen (n := Int32.ofNat N) hx.1 hx.2.1 (gb_old hH g1) g2 g5 rfl rfl hdg (k p e R s m args below meth c mc ms hx H locs cells slots hH h1 h2 ls hl)
theorem gb_ldcS {idx : Nat} {tx : String} (i : Nat) (hq : gb_sr[i]? = some (M.1.cls, idx, tx)) (hdg : decode M.2.1 pc = .ok (.ldc idx, 2)) (k : gb_J Γ M d Q kc ks sh g (pc + 2) lv (.retAddr (2 + i) :: st)) : gb_J Γ M d Q kc ks sh g pc lv st := by
  intro p e R s m args below meth c mc ms hx H locs cells slots hH h1 h2 ls hl
  have hK := hx.2.2.2.2.2.2.2.1
  exact va_ldcS hx.1 hx.2.1 hx.2.2.2.2.1 (vk_R.warm hK.2.2 (hK.1.2.2.2.2.2.1 i _ hq)) hdg (k p e R s m args below meth c mc ms hx H locs cells slots hH h1 h2 ls hl)
/-- of String constant i: its coder, its bytes -/
theorem gb_s_coder {i : Nat} (hi : i < 13) (h : gb_RO Γ) : va_OF "java/lang/String" "coder" "B" (gb_cv Γ (.int 0)) (Γ.2.2.2.2 (2 + i)) (fun q => gb_sz Γ ≤ q) Γ.2.2.2.1 Γ.2.2.2.1.heap := (h.2.2.2.2.2.1 i hi).2.1
theorem gb_s_value {i : Nat} (hi : i < 13) (h : gb_RO Γ) : va_OF "java/lang/String" "value" "[B" (gb_cv Γ (.retAddr (20 + i))) (Γ.2.2.2.2 (2 + i)) (fun q => gb_sz Γ ≤ q) Γ.2.2.2.1 Γ.2.2.2.1.heap := (h.2.2.2.2.2.1 i hi).2.2.1
theorem gb_s_bytes {i : Nat} (hi : i < 13) (h : gb_RO Γ) : va_T .byte (Γ.2.2.2.2 (20 + i)) (gb_sl.getD i 0) (fun j => .int ((gb_sb.getD i []).getD j 0)) (fun q => gb_sz Γ ≤ q) Γ.2.2.2.1 Γ.2.2.2.1.heap := (h.2.2.2.2.2.1 i hi).2.2.2
set_option maxHeartbeats 1000000 in
theorem gb_cVS {idx i : Nat} {As st' rest : List Value} (hi : i < 13) (hcl : M'.1.cls = "java/lang/String") (hw : gb_LV M.1.cls idx M' n) (hC : gb_C Γ M' d' kc' ks' sh g (.retAddr (2 + i) :: As) Q') (hd : d' + 1 ≤ d) (hkc : kc' ≤ kc) (hks : ks' ≤ ks) (hn : As.length = n) (hst : st' = As.reverse ++ .retAddr (2 + i) :: rest) (hrest : (rest.map fun v => v.category).sum ≤ 8) (hdg : decode M.2.1 pc = .ok (.invokevirtual idx, 3))
    (kk : ∀ (sh : List gb_Sh) (g : gb_G) (v : Option Value), Q' sh g v → gb_J Γ M d Q (kc - kc') (ks - ks') sh g (pc + 3) lv (v.toList ++ rest)) : gb_J Γ M d Q kc ks sh g pc lv st' := by
  intro p e R s m args below meth c mc ms hx H locs cells slots hH h1 h2 ls hl
  obtain ⟨hm, hin, hse, hini, hco, hy, hp, hL⟩ := hw
  obtain ⟨x1, x2, x3, x4, x5, x6, x7, hK, x9, x10, x11, x12⟩ := id hx
  have hrecv : ∃ cellB : Cell, H[Γ.2.2.2.2 (2 + i)]? = some cellB ∧ cellB.vm.isStatics = false ∧ s.vm.findClass M'.1.cls = some cellB.cls := by
    obtain ⟨cell, q1, q2, q3, -⟩ := va_O.moved hK.2.2.alike (hK.1.2.2.2.2.2.2.1 i hi).1
    exact ⟨cell, gb_old hH q1, q2, by rw [hcl]; exact q3⟩
  refine gb_run (Q' := Q') (va_runV (As := As.map (gb_cv Γ)) (rest := rest.map (gb_cv Γ)) (Ts := []) (C := M'.1.cls) ⟨x1, x2, x4, x5, fun w h => by cases h⟩ hC ⟨gb_cB hK hm hini hco hy hp hL x9 x10 hd, hK.word hin rfl args, hK.word hse rfl args⟩
    ⟨gb_blind, hrecv, fun U hU hW => ⟨rfl, by rw [hU]; exact hH.nil, hK.warm hW⟩⟩ rfl (by rw [List.length_map]; exact hn) hl.1 (by rw [hst]; simp [gb_cv]) (by show 2 * 0 + _ ≤ 8; rw [gb_cat]; omega) hdg ⟨by omega, by omega⟩) hH.2.2.2 (fun sh g v hq H1 locs1 hH1 => ?_)
  rw [gb_toList]
  exact kk sh g v hq p e R s m args below meth c mc ms hx H1 locs1 (cells + kc') (slots + ks') hH1 (by omega) (by omega) ls hl
theorem gb_rload_n {j : Fin 4} {x : Nat} (hdg : decode M.2.1 pc = .ok (.aload_n j, 1)) (hv : lv.lookup (j : Nat) = some (.retAddr x)) (k : gb_J Γ M d Q kc ks sh g (pc + 1) lv (.retAddr x :: st)) : gb_J Γ M d Q kc ks sh g pc lv st := fun p e R s m args below meth c mc ms hx H locs cells slots hH h1 h2 ls hl => lv_aload_n hx.1 hx.2.1 hdg rfl (gb_lk hl hv) (k p e R s m args below meth c mc ms hx H locs cells slots hH h1 h2 ls hl)
end GRO
