/-! ===== new cells, arrays of references, copies, calls ===== -/
def gb_dv (k : Nat) : Value := match k with
  | 0 => .int 0
  | 1 => .long 0
  | _ => .null
/-- a class as an entry names it for 'new' -/
def gb_NW (own : String) (idx ci n : Nat) (ks0 : List Nat) : Prop := ∃ (C : String) (T : u_T) (ty : Nat → FieldType), gb_Cl ci C T n ty ∧ Cond.classLink own idx C ∈ lw_tbl ∧ Cond.instantiable C n ∈ lw_tbl ∧ Cond.initialized C ∈ lw_tbl ∧ (∀ j, j < n → defaultValue (ty j) = gb_dv (ks0.getD j 2)) ∧ ks0.all (fun k => decide (k < 3)) = true
/-- an instance method as an entry names it -/
def gb_LV (own : String) (idx : Nat) (M' : gb_M) (n : Nat) : Prop := Cond.methodLink own idx M'.1 ∈ lw_tbl ∧ Cond.instanceMethod M'.1 ∈ lw_tbl ∧ Cond.selects M'.1.cls M'.1 M'.1 ∈ lw_tbl ∧ Cond.initialized M'.1.cls ∈ lw_tbl ∧ Cond.code M'.1 M'.2.1 M'.2.2.1 M'.2.2.2 ∈ lw_tbl ∧ (M'.1.cls ≠ "java/lang/invoke/MethodHandle" ∧ M'.1.cls ≠ "java/lang/invoke/VarHandle") ∧ (parseMethodDescriptor M'.1.desc).map (fun d => d.parameters.length) = some n ∧ M'.2.2.1 ≤ 40
/-- a static method as an entry names it -/
def gb_LS (own : String) (idx : Nat) (M' : gb_M) (n : Nat) : Prop := Cond.methodLink own idx M'.1 ∈ lw_tbl ∧ Cond.static M'.1 ∈ lw_tbl ∧ Cond.initialized M'.1.cls ∈ lw_tbl ∧ Cond.code M'.1 M'.2.1 M'.2.2.1 M'.2.2.2 ∈ lw_tbl ∧ (M'.1.cls ≠ "java/lang/invoke/MethodHandle" ∧ M'.1.cls ≠ "java/lang/invoke/VarHandle") ∧ (parseMethodDescriptor M'.1.desc).map (fun d => d.parameters.length) = some n ∧ M'.2.2.1 ≤ 40
/-- a constructor as an entry names it -/
def gb_LI (own : String) (idx : Nat) (M' : gb_M) (n : Nat) : Prop := Cond.methodLink own idx M'.1 ∈ lw_tbl ∧ Cond.instanceMethod M'.1 ∈ lw_tbl ∧ M'.1.name = "<init>" ∧ M'.2.2.2 = none ∧ Cond.initialized M'.1.cls ∈ lw_tbl ∧ Cond.code M'.1 M'.2.1 M'.2.2.1 M'.2.2.2 ∈ lw_tbl ∧ (M'.1.cls ≠ "java/lang/invoke/MethodHandle" ∧ M'.1.cls ≠ "java/lang/invoke/VarHandle") ∧ (parseMethodDescriptor M'.1.desc).map (fun d => d.parameters.length) = some n ∧ M'.2.2.1 ≤ 40
/-- a static method, a constructor of a nest mate -/
def gb_LSN (own : String) (idx : Nat) (M' : gb_M) (n : Nat) : Prop := (∃ host, Cond.methodLinkNest own idx M'.1 host ∈ lw_tbl) ∧ Cond.static M'.1 ∈ lw_tbl ∧ Cond.initialized M'.1.cls ∈ lw_tbl ∧ Cond.code M'.1 M'.2.1 M'.2.2.1 M'.2.2.2 ∈ lw_tbl ∧ (M'.1.cls ≠ "java/lang/invoke/MethodHandle" ∧ M'.1.cls ≠ "java/lang/invoke/VarHandle") ∧ (parseMethodDescriptor M'.1.desc).map (fun d => d.parameters.length) = some n ∧ M'.2.2.1 ≤ 40
def gb_LIN (own : String) (idx : Nat) (M' : gb_M) (n : Nat) : Prop := (∃ host, Cond.methodLinkNest own idx M'.1 host ∈ lw_tbl) ∧ Cond.instanceMethod M'.1 ∈ lw_tbl ∧ M'.1.name = "<init>" ∧ M'.2.2.2 = none ∧ Cond.initialized M'.1.cls ∈ lw_tbl ∧ Cond.code M'.1 M'.2.1 M'.2.2.1 M'.2.2.2 ∈ lw_tbl ∧ (M'.1.cls ≠ "java/lang/invoke/MethodHandle" ∧ M'.1.cls ≠ "java/lang/invoke/VarHandle") ∧ (parseMethodDescriptor M'.1.desc).map (fun d => d.parameters.length) = some n ∧ M'.2.2.1 ≤ 40
section GC
variable {Γ : gb_X}
theorem gb_cB {R : Room} {s : State} {args : Array Value} {own : String} {idx : Nat} {M' : gb_M} {n d d' kc' ks' : Nat} (hK : gb_K Γ s) (hm : Cond.methodLink own idx M'.1 ∈ lw_tbl) (hi : Cond.initialized M'.1.cls ∈ lw_tbl) (hc : Cond.code M'.1 M'.2.1 M'.2.2.1 M'.2.2.2 ∈ lw_tbl) (hy : M'.1.cls ≠ "java/lang/invoke/MethodHandle" ∧ M'.1.cls ≠ "java/lang/invoke/VarHandle") (hp : (parseMethodDescriptor M'.1.desc).map (fun d => d.parameters.length) = some n) (hL : M'.2.2.1 ≤ 40)
    (hf : d ≤ R.frames) (hl : 64 * d ≤ R.locals) (hd : d' + 1 ≤ d) : CallB R s args own idx M'.1 M'.2.1 M'.2.2.1 M'.2.2.2 (gb_ws M') (gb_rm d' kc' ks') kc' ks' n := by
  refine ⟨rfl, rfl, Nat.le_trans hd hf, ?_, ?_, List.mem_cons_self, hK.word hc rfl args, hK.word hi rfl args, hy, fun sig h => ?_, hK.word hm rfl args⟩
  · show 8 + (M'.2.2.1 + 11) + 64 * d' ≤ R.locals
    omega
  · intro w hw a' U hW
    rw [List.mem_singleton.mp hw]
    exact (hK.warm hW).word hc rfl a'
  · rw [h] at hp
    exact (Option.some.inj hp).symm
theorem gb_blind {sh : List gb_Sh} {g : gb_G} {A : Array Value} : FrameBlind (fun a U => a = A ∧ gb_H Γ sh g U.heap [] ∧ gb_K Γ U) := fun a U g mk q => ⟨q.1, q.2.1, q.2.2⟩
section GR
variable {p : Program} {l : Launch} {e : Env} {R : Room} {s : State} {m : MethodId} {args : Array Value} {below : List Frame} {meth : Method} {c : Code} {H : Heap} {locs : List Loc} {cells slots : Nat} {Q0 : State → Prop}
theorem gb_run {Q' : gb_P} {a : Array Value} {kc' ks' pc : Nat} {ls : Array Slot} {st0 rest : List Value} (hr : va_Run p l e R s m args below meth c H locs cells slots kc' ks' (F0 m pc ls st0) rest (gb_Q Γ Q' a) (fun q => gb_sz Γ ≤ q)) (hl : ∀ q ∈ locs, gb_sz Γ ≤ q.base)
    (kk : ∀ (sh : List gb_Sh) (g : gb_G) (v : Option Value), Q' sh g v → ∀ (H1 : Heap) (locs1 : List Loc), gb_H Γ sh g H1 locs1 → W p l e R s m args below meth c H1 locs1 (cells + kc') (slots + ks') Q0 (F0 m (pc + 3) ls ((v.map (gb_cv Γ)).toList ++ rest))) : W p l e R s m args below meth c H locs cells slots Q0 (F0 m pc ls st0) := by
  intro T hT X
  obtain ⟨v, st₀, t, T', L, h0, X', hL, e1, e2, ⟨sh, g, v', hv, hq, hH⟩, st⟩ := hr T hT X
  cases hv
  obtain ⟨t2, a1, b1⟩ := kk sh g v' hq T'.heap (locs ++ L) ⟨by rw [e1]; exact hH.1, by rw [e1]; exact hH.2.1, by rw [e1]; exact hH.2.2.1, fun q hq => by
    rcases List.mem_append.mp hq with h | h
    · exact hl q h
    · exact hL q h⟩ T' rfl X'
  exact ⟨t2, st t2 a1, b1⟩
end GR
variable {M M' : gb_M} {d d' : Nat} {Q Q' : gb_P} {kc ks kc' ks' n : Nat} {sh : List gb_Sh} {g : gb_G} {pc : Nat} {lv : List (Nat × Value)} {st : List Value}
theorem gb_toList (v : Option Value) (rest : List Value) : (v.map (gb_cv Γ)).toList ++ rest.map (gb_cv Γ) = (v.toList ++ rest).map (gb_cv Γ) := by cases v <;> rfl
theorem gb_cat (rest : List Value) : ((rest.map (gb_cv Γ)).map fun v => v.category).sum = (rest.map fun v => v.category).sum := by
  rw [List.map_map]
  congr 1
  exact List.map_congr_left fun v _ => gb_cv_cat Γ v
set_option maxHeartbeats 1000000 in
theorem gb_cV {idx a ci : Nat} {ks0 : List Nat} {As st' rest : List Value} (hw : gb_LV M.1.cls idx M' n) (hC : gb_C Γ M' d' kc' ks' sh g (.ref a :: As) Q') (hs : sh[a]? = some (.inr (ci, ks0))) (hci : (vwCl[ci]?).map (fun q => q.1) = some M'.1.cls) (hd : d' + 1 ≤ d) (hkc : kc' ≤ kc) (hks : ks' ≤ ks) (hn : As.length = n) (hst : st' = As.reverse ++ .ref a :: rest) (hrest : (rest.map fun v => v.category).sum ≤ 8) (hdg : decode M.2.1 pc = .ok (.invokevirtual idx, 3))
    (kk : ∀ (sh : List gb_Sh) (g : gb_G) (v : Option Value), Q' sh g v → gb_J Γ M d Q (kc - kc') (ks - ks') sh g (pc + 3) lv (v.toList ++ rest)) : gb_J Γ M d Q kc ks sh g pc lv st' := by
  intro p e R s m args below meth c mc ms hx H locs cells slots hH h1 h2 ls hl
  obtain ⟨hm, hin, hse, hini, hco, hy, hp, hL⟩ := hw
  obtain ⟨x1, x2, x3, x4, x5, x6, x7, hK, x9, x10, x11, x12⟩ := id hx
  have hrecv : ∃ cellB : Cell, H[gb_sz Γ + a]? = some cellB ∧ cellB.vm.isStatics = false ∧ s.vm.findClass M'.1.cls = some cellB.cls := by
    obtain ⟨r, q1, cell, g1, g2, g3, -⟩ := hH.2.1 a _ hs
    have q1 : vwCl[ci]? = some r := q1
    rw [q1] at hci
    have hr : r.1 = M'.1.cls := Option.some.inj hci
    exact ⟨cell, g1, by rw [g3]; rfl, by rw [g2, ← hr]; exact (hK.k.1 ci r q1).2.1⟩
  refine gb_run (Q' := Q') (va_runV (As := As.map (gb_cv Γ)) (rest := rest.map (gb_cv Γ)) (Ts := []) (C := M'.1.cls) ⟨x1, x2, x4, x5, fun w h => by cases h⟩ hC ⟨gb_cB hK hm hini hco hy hp hL x9 x10 hd, hK.word hin rfl args, hK.word hse rfl args⟩
    ⟨gb_blind, hrecv, fun U hU hW => ⟨rfl, by rw [hU]; exact hH.nil, hK.warm hW⟩⟩ rfl (by rw [List.length_map]; exact hn) hl.1 (by rw [hst]; simp [gb_cv]) (by show 2 * 0 + _ ≤ 8; rw [gb_cat]; omega) hdg ⟨by omega, by omega⟩) hH.2.2.2 (fun sh g v hq H1 locs1 hH1 => ?_)
  rw [gb_toList]
  exact kk sh g v hq p e R s m args below meth c mc ms hx H1 locs1 (cells + kc') (slots + ks') hH1 (by omega) (by omega) ls hl
set_option maxHeartbeats 1000000 in
theorem gb_cS {idx : Nat} {As st' rest : List Value} (hw : gb_LS M.1.cls idx M' n) (hC : gb_C Γ M' d' kc' ks' sh g As Q') (hd : d' + 1 ≤ d) (hkc : kc' ≤ kc) (hks : ks' ≤ ks) (hn : As.length = n) (hst : st' = As.reverse ++ rest) (hrest : (rest.map fun v => v.category).sum ≤ 8) (hdg : decode M.2.1 pc = .ok (.invokestatic idx, 3))
    (kk : ∀ (sh : List gb_Sh) (g : gb_G) (v : Option Value), Q' sh g v → gb_J Γ M d Q (kc - kc') (ks - ks') sh g (pc + 3) lv (v.toList ++ rest)) : gb_J Γ M d Q kc ks sh g pc lv st' := by
  intro p e R s m args below meth c mc ms hx H locs cells slots hH h1 h2 ls hl
  obtain ⟨hm, hin, hini, hco, hy, hp, hL⟩ := hw
  obtain ⟨x1, x2, x3, x4, x5, x6, x7, hK, x9, x10, x11, x12⟩ := id hx
  refine gb_run (Q' := Q') (va_runS (As := As.map (gb_cv Γ)) (rest := rest.map (gb_cv Γ)) (Ts := []) ⟨x1, x2, x4, x5, fun w h => by cases h⟩ hC ⟨gb_cB hK hm hini hco hy hp hL x9 x10 hd, hK.word hin rfl args⟩
    ⟨gb_blind, fun U hU hW => ⟨rfl, by rw [hU]; exact hH.nil, hK.warm hW⟩⟩ rfl (by rw [List.length_map]; exact hn) hl.1 (by rw [hst]; simp) (by show 2 * 0 + _ ≤ 8; rw [gb_cat]; omega) hdg ⟨by omega, by omega⟩) hH.2.2.2 (fun sh g v hq H1 locs1 hH1 => ?_)
  rw [gb_toList]
  exact kk sh g v hq p e R s m args below meth c mc ms hx H1 locs1 (cells + kc') (slots + ks') hH1 (by omega) (by omega) ls hl
set_option maxHeartbeats 1000000 in
theorem gb_cI {idx a : Nat} {As st' rest : List Value} (hw : gb_LI M.1.cls idx M' n) (hC : gb_C Γ M' d' kc' ks' sh g (.ref a :: As) Q') (hd : d' + 1 ≤ d) (hkc : kc' ≤ kc) (hks : ks' ≤ ks) (hn : As.length = n) (hst : st' = As.reverse ++ .ref a :: rest) (hrest : (rest.map fun v => v.category).sum ≤ 8) (hdg : decode M.2.1 pc = .ok (.invokespecial idx, 3))
    (kk : ∀ (sh : List gb_Sh) (g : gb_G) (v : Option Value), Q' sh g v → gb_J Γ M d Q (kc - kc') (ks - ks') sh g (pc + 3) lv (v.toList ++ rest)) : gb_J Γ M d Q kc ks sh g pc lv st' := by
  intro p e R s m args below meth c mc ms hx H locs cells slots hH h1 h2 ls hl
  obtain ⟨hm, hin, hnm, hrt, hini, hco, hy, hp, hL⟩ := hw
  obtain ⟨x1, x2, x3, x4, x5, x6, x7, hK, x9, x10, x11, x12⟩ := id hx
  have hB := gb_cB (args := args) (kc' := kc') (ks' := ks') hK hm hini hco hy hp hL x9 x10 hd
  rw [hrt] at hB
  refine gb_run (Q' := Q') (va_runI (b := gb_sz Γ + a) (As := As.map (gb_cv Γ)) (rest := rest.map (gb_cv Γ)) (Ts := []) ⟨x1, x2, x4, x5, fun w h => by cases h⟩ hC ⟨hB, hnm, hK.word hin rfl args⟩
    ⟨gb_blind, fun U hU hW => ⟨rfl, by rw [hU]; exact hH.nil, hK.warm hW⟩⟩ rfl (by rw [List.length_map]; exact hn) hl.1 (by rw [hst]; simp [gb_cv]) (by show 2 * 0 + _ ≤ 8; rw [gb_cat]; omega) hdg ⟨by omega, by omega⟩) hH.2.2.2 (fun sh g v hq H1 locs1 hH1 => ?_)
  rw [gb_toList]
  exact kk sh g v hq p e R s m args below meth c mc ms hx H1 locs1 (cells + kc') (slots + ks') hH1 (by omega) (by omega) ls hl
theorem gb_cN {R : Room} {s : State} {args : Array Value} {own host : String} {idx : Nat} {M' : gb_M} {n d d' kc' ks' : Nat} (hK : gb_K Γ s) (hm : Cond.methodLinkNest own idx M'.1 host ∈ lw_tbl) (hi : Cond.initialized M'.1.cls ∈ lw_tbl) (hc : Cond.code M'.1 M'.2.1 M'.2.2.1 M'.2.2.2 ∈ lw_tbl) (hy : M'.1.cls ≠ "java/lang/invoke/MethodHandle" ∧ M'.1.cls ≠ "java/lang/invoke/VarHandle") (hp : (parseMethodDescriptor M'.1.desc).map (fun d => d.parameters.length) = some n) (hL : M'.2.2.1 ≤ 40)
    (hf : d ≤ R.frames) (hl : 64 * d ≤ R.locals) (hd : d' + 1 ≤ d) : va_CN R s args own idx M'.1 host M'.2.1 M'.2.2.1 M'.2.2.2 (gb_ws M') (gb_rm d' kc' ks') kc' ks' n := by
  have hN : va_Nw (.methodLinkNest own idx M'.1 host) s := va_Nw.warmM hK.2.2 (va_Nw.of rfl (hK.1.1 _ hm))
  refine ⟨⟨rfl, rfl, Nat.le_trans hd hf, ?_, ?_, List.mem_cons_self⟩, hK.word hc rfl args, hK.word hi rfl args, hy, fun sig h => ?_, va_Nw.use rfl hN⟩
  · show 8 + (M'.2.2.1 + 11) + 64 * d' ≤ R.locals
    omega
  · intro w hw a' U hW
    rw [List.mem_singleton.mp hw]
    exact (hK.warm hW).word hc rfl a'
  · rw [h] at hp
    exact (Option.some.inj hp).symm
set_option maxHeartbeats 1000000 in
theorem gb_cSN {idx : Nat} {As st' rest : List Value} (hw : gb_LSN M.1.cls idx M' n) (hC : gb_C Γ M' d' kc' ks' sh g As Q') (hd : d' + 1 ≤ d) (hkc : kc' ≤ kc) (hks : ks' ≤ ks) (hn : As.length = n) (hst : st' = As.reverse ++ rest) (hrest : (rest.map fun v => v.category).sum ≤ 8) (hdg : decode M.2.1 pc = .ok (.invokestatic idx, 3))
    (kk : ∀ (sh : List gb_Sh) (g : gb_G) (v : Option Value), Q' sh g v → gb_J Γ M d Q (kc - kc') (ks - ks') sh g (pc + 3) lv (v.toList ++ rest)) : gb_J Γ M d Q kc ks sh g pc lv st' := by
  intro p e R s m args below meth c mc ms hx H locs cells slots hH h1 h2 ls hl
  obtain ⟨⟨host, hm⟩, hin, hini, hco, hy, hp, hL⟩ := hw
  obtain ⟨x1, x2, x3, x4, x5, x6, x7, hK, x9, x10, x11, x12⟩ := id hx
  refine gb_run (Q' := Q') (va_runSN (As := As.map (gb_cv Γ)) (rest := rest.map (gb_cv Γ)) (Ts := []) ⟨x1, x2, x4, x5, fun w h => by cases h⟩ hC ⟨gb_cN hK hm hini hco hy hp hL x9 x10 hd, hK.word hin rfl args, trivial⟩
    ⟨gb_blind, fun U hU hW => ⟨rfl, by rw [hU]; exact hH.nil, hK.warm hW⟩⟩ rfl (by rw [List.length_map]; exact hn) hl.1 (by rw [hst]; simp) (by show 2 * 0 + _ ≤ 8; rw [gb_cat]; omega) hdg ⟨by omega, by omega⟩) hH.2.2.2 (fun sh g v hq H1 locs1 hH1 => ?_)
  rw [gb_toList]
  exact kk sh g v hq p e R s m args below meth c mc ms hx H1 locs1 (cells + kc') (slots + ks') hH1 (by omega) (by omega) ls hl
set_option maxHeartbeats 1000000 in
theorem gb_cIN {idx a : Nat} {As st' rest : List Value} (hw : gb_LIN M.1.cls idx M' n) (hC : gb_C Γ M' d' kc' ks' sh g (.ref a :: As) Q') (hd : d' + 1 ≤ d) (hkc : kc' ≤ kc) (hks : ks' ≤ ks) (hn : As.length = n) (hst : st' = As.reverse ++ .ref a :: rest) (hrest : (rest.map fun v => v.category).sum ≤ 8) (hdg : decode M.2.1 pc = .ok (.invokespecial idx, 3))
    (kk : ∀ (sh : List gb_Sh) (g : gb_G) (v : Option Value), Q' sh g v → gb_J Γ M d Q (kc - kc') (ks - ks') sh g (pc + 3) lv (v.toList ++ rest)) : gb_J Γ M d Q kc ks sh g pc lv st' := by
  intro p e R s m args below meth c mc ms hx H locs cells slots hH h1 h2 ls hl
  obtain ⟨⟨host, hm⟩, hin, hnm, hrt, hini, hco, hy, hp, hL⟩ := hw
  obtain ⟨x1, x2, x3, x4, x5, x6, x7, hK, x9, x10, x11, x12⟩ := id hx
  have hB := gb_cN (args := args) (kc' := kc') (ks' := ks') hK hm hini hco hy hp hL x9 x10 hd
  rw [hrt] at hB
  refine gb_run (Q' := Q') (va_runIN (b := gb_sz Γ + a) (As := As.map (gb_cv Γ)) (rest := rest.map (gb_cv Γ)) (Ts := []) ⟨x1, x2, x4, x5, fun w h => by cases h⟩ hC ⟨hB, hnm, hK.word hin rfl args⟩
    ⟨gb_blind, fun U hU hW => ⟨rfl, by rw [hU]; exact hH.nil, hK.warm hW⟩⟩ rfl (by rw [List.length_map]; exact hn) hl.1 (by rw [hst]; simp [gb_cv]) (by show 2 * 0 + _ ≤ 8; rw [gb_cat]; omega) hdg ⟨by omega, by omega⟩) hH.2.2.2 (fun sh g v hq H1 locs1 hH1 => ?_)
  rw [gb_toList]
  exact kk sh g v hq p e R s m args below meth c mc ms hx H1 locs1 (cells + kc') (slots + ks') hH1 (by omega) (by omega) ls hl
/-- Object() -/
theorem gb_obj {idx a : Nat} (hm : Cond.methodLink M.1.cls idx objectInit ∈ lw_tbl) (hin : Cond.instanceMethod objectInit ∈ lw_tbl) (hco : Cond.code objectInit ⟨#[0xb1]⟩ 1 none ∈ lw_tbl) (hd : 1 ≤ d) (hrest : (st.map fun v => v.category).sum ≤ 8) (hdg : decode M.2.1 pc = .ok (.invokespecial idx, 3)) (k : gb_J Γ M d Q kc ks sh g (pc + 3) lv st) : gb_J Γ M d Q kc ks sh g pc lv (.ref a :: st) := by
  intro p e R s m args below meth c mc ms hx H locs cells slots hH h1 h2 ls hl
  obtain ⟨x1, x2, x3, x4, x5, x6, x7, hK, x9, x10, x11, x12⟩ := id hx
  exact W.objInit x1 x2 x5 (hK.word hm rfl args) (hK.word hin rfl args) (hK.word hco rfl args) rfl (by rw [x4]; exact hl.1) rfl hdg (by omega) (by show 2 * 0 + ((st.map (gb_cv Γ)).map fun v => v.category).sum + 12 ≤ _; rw [gb_cat]; omega) (k p e R s m args below meth c mc ms hx H locs cells slots hH h1 h2 ls hl)
set_option maxHeartbeats 1000000 in
theorem gb_new {idx ci n : Nat} {ks0 : List Nat} (hf : gb_NW M.1.cls idx ci n ks0) (hkc : 1 ≤ kc) (hks : n ≤ ks) (hdg : decode M.2.1 pc = .ok (.new idx, 3)) (k : gb_J Γ M d Q (kc - 1) (ks - n) (sh ++ [.inr (ci, ks0)]) (gb_z g sh.length) (pc + 3) lv (.ref sh.length :: st)) : gb_J Γ M d Q kc ks sh g pc lv st := by
  intro p e R s m args below meth c mc ms hx H locs cells slots hH h1 h2 ls hl
  obtain ⟨x1, x2, x3, x4, x5, x6, x7, hK, x9, x10, x11, x12⟩ := id hx
  obtain ⟨C, T, ty, ⟨hc, hin, hty, hnm⟩, hcl, hins, hini, hdv, hall⟩ := hf
  have hKn := hK.k.1 ci _ hc
  refine W.newcK x1 x2 x5 (hK.word hcl rfl args) (hK.word hins rfl args) (hK.word hini rfl args) rfl hdg (by omega) (by omega) hKn.2.1 hH.1 fun H1 kC hkC e1 z1 o1 => ?_
  refine k p e R s m args below meth c mc ms hx H1 locs (cells + 1) (slots + n) (hH.grow (by rw [z1, hH.1]) (fun q hq => o1 q (by rw [← hH.1]; exact hq)) ⟨_, hc, (u_born ty (gb_lays hK hin args) (fun _ h => h) hKn hkC e1 hty).to (fun j hj => ?_)⟩) (by omega) (by omega) ls hl
  show defaultValue (ty j) = vp_V (gb_fs Γ _ _ ks0) j
  rw [hdv j hj]
  simp only [vp_V, gb_fs, List.getD_eq_getElem?_getD, List.getElem?_mapIdx]
  cases hk : ks0[j]? with
  | none => rfl
  | some k0 =>
    have hlt : k0 < 3 := by
      have := List.all_eq_true.mp hall k0 (List.mem_of_getElem? hk)
      simpa using this
    match k0, hlt with
    | 0, _ => simp [gb_dv, gb_fv, gb_z]
    | 1, _ => simp [gb_dv, gb_fv, gb_z]
    | 2, _ => rfl
set_option maxHeartbeats 1000000 in
theorem gb_newarr {atype : ArrayType} {t N : Nat} {i : Int32} (hat : newarray.typeOf atype = gb_ty t) (ht : t < 3) (hw : Cond.arrayClass (gb_ty t) ∈ lw_tbl) (hi : ¬ i < 0) (hN : i.toNatClampNeg = N) (hNb : N ≤ 60000) (hkc : 1 ≤ kc) (hks : N ≤ ks) (hdg : decode M.2.1 pc = .ok (.newarray atype, 2)) (k : gb_J Γ M d Q (kc - 1) (ks - N) (sh ++ [.inl (t, N)]) (gb_z g sh.length) (pc + 2) lv (.ref sh.length :: st)) : gb_J Γ M d Q kc ks sh g pc lv (.int i :: st) := by
  intro p e R s m args below meth c mc ms hx H locs cells slots hH h1 h2 ls hl
  obtain ⟨x1, x2, x3, x4, x5, x6, x7, hK, x9, x10, x11, x12⟩ := id hx
  have hra := (hK.k.2 t _ (gb_tys_at Γ (by omega))).2
  have hbt : N * componentBytes (newarray.typeOf atype) ≤ 536870912 := by
    rw [hat]
    have : componentBytes (gb_ty t) ≤ 8 := by
      match t, ht with
      | 0, _ => decide
      | 1, _ => decide
      | 2, _ => decide
    calc N * componentBytes (gb_ty t) ≤ 60000 * 8 := Nat.mul_le_mul hNb this
      _ ≤ 536870912 := by decide
  refine va_newaK x1 x2 (by rw [hat]; exact word_at hK.2.2 (Or.inr ⟨_, rfl⟩) (hK.1.1 _ hw)) rfl hdg rfl hi hN hbt (by omega) (by omega) hH.1 fun H1 cA e1 z1 o1 hAr hNm => ?_
  have hcA : cA = Γ.2.2.1 t := by
    rw [hat] at hNm
    match t, ht, hra, hNm with
    | 0, _, hra, hNm => exact Option.some.inj (hNm.symm.trans hra)
    | 1, _, hra, hNm => exact Option.some.inj (hNm.symm.trans hra)
    | 2, _, hra, hNm => exact Option.some.inj (hNm.symm.trans hra)
  subst hcA
  refine k p e R s m args below meth c mc ms hx H1 locs (cells + 1) (slots + N) (hH.grow (by rw [z1, hH.1]) (fun q hq => o1 q (by rw [← hH.1]; exact hq)) ?_) (by omega) (by omega) ls hl
  show H1[gb_sz Γ + sh.length]? = some (vp_cell (Γ.2.2.1 t) (N, gb_ct Γ (gb_z g sh.length) sh.length t))
  rw [e1, hat]
  match t, ht with
  | 0, _ => simp [gb_ct, vp_cell_i, gb_z, gb_ty, defaultValue]
  | 1, _ => simp [gb_ct, vp_cell_l, gb_z, gb_ty, defaultValue]
  | 2, _ => simp [gb_ct, vp_cell_i, gb_z, gb_ty, defaultValue]
set_option maxHeartbeats 1000000 in
theorem gb_anew {idx t N : Nat} {C : String} {i : Int32} (hC : gb_ty t = .object C) (ht : t = 3 ∨ t = 4) (hcl : Cond.classLink M.1.cls idx C ∈ lw_tbl) (hw : Cond.arrayOver (.object C) ∈ lw_tbl) (hi : ¬ i < 0) (hN : i.toNatClampNeg = N) (hNb : N ≤ 60000) (hkc : 1 ≤ kc) (hks : N ≤ ks) (hdg : decode M.2.1 pc = .ok (.anewarray idx, 3)) (k : gb_J Γ M d Q (kc - 1) (ks - N) (sh ++ [.inl (t, N)]) (gb_z g sh.length) (pc + 3) lv (.ref sh.length :: st)) : gb_J Γ M d Q kc ks sh g pc lv (.int i :: st) := by
  intro p e R s m args below meth c mc ms hx H locs cells slots hH h1 h2 ls hl
  obtain ⟨x1, x2, x3, x4, x5, x6, x7, hK, x9, x10, x11, x12⟩ := id hx
  subst hN
  have hover : va_AO C s := va_AO.moved hK.2.2.alike (va_AO.of (hK.1.1 _ hw))
  refine W.anew x1 x2 x5 (hK.word hcl rfl args) (va_AO.use hover) rfl hdg rfl hi (by omega) (by omega) (by omega) fun cA kA comp f1 f2 f3 f4 => ?_
  generalize hH1 : H.push ({ cls := cA, slots := Array.replicate i.toNatClampNeg .null, vm := .none } : Cell) = H1
  have z1 : H1.size = H.size + 1 := by rw [← hH1, Array.size_push]
  have e1 : H1[H.size]? = some (arrV cA i.toNatClampNeg (fun _ => .null)) := by rw [← hH1, Array.getElem?_push_size, ← arrV_new]
  have o1 : ∀ q : Nat, q < H.size → H1[q]? = H[q]? := fun q hq => by rw [← hH1, Array.getElem?_push, if_neg (Nat.ne_of_lt hq)]
  have hcA : cA = Γ.2.2.1 t := by
    rcases ht with rfl | rfl
    · obtain ⟨kA', comp', -, -, -, k4⟩ := (hK.k.2 3 _ (gb_tys_at Γ (by decide))).2
      cases hC
      exact Option.some.inj (f1.symm.trans k4)
    · obtain ⟨kA', comp', -, -, -, k4⟩ := (hK.k.2 4 _ (gb_tys_at Γ (by decide))).2
      cases hC
      exact Option.some.inj (f1.symm.trans k4)
  subst hcA
  have hk := k p e R s m args below meth c mc ms hx H1 locs (cells + 1) (slots + i.toNatClampNeg) (hH.grow z1 o1 (by
    show H1[gb_sz Γ + sh.length]? = some (vp_cell (Γ.2.2.1 t) (i.toNatClampNeg, gb_ct Γ (gb_z g sh.length) sh.length t))
    rw [← hH.1, e1]
    rcases ht with rfl | rfl <;> simp [gb_ct, vp_cell_q, gb_z, va_rf])) (by omega) (by omega) ls hl
  rw [show ((Value.ref sh.length :: st).map (gb_cv Γ)) = Value.ref H.size :: st.map (gb_cv Γ) by rw [hH.1]; rfl] at hk
  exact hk
set_option maxHeartbeats 1000000 in
theorem gb_aast {c n t : Nat} {i : Int32} {r : Option Nat} (ht : t = 3 ∨ t = 4) (hs : sh[c]? = some (.inl (t, n))) (hi : vp_in i n) (hr : ∀ a, r = some a → ∃ (ci : Nat) (ks0 : List Nat) (q : vw_C), sh[a]? = some (.inr (ci, ks0)) ∧ vwCl[ci]? = some q ∧ gb_ty t = .object q.1) (hdg : decode M.2.1 pc = .ok (.aastore, 1)) (k : gb_J Γ M d Q kc ks sh (gb_pr g c i.toNatClampNeg r) (pc + 1) lv st) : gb_J Γ M d Q kc ks sh g pc lv (va_rf r :: .int i :: .ref c :: st) := by
  intro p e R s m args below meth c0 mc ms hx H locs cells slots hH h1 h2 ls hl
  have hK := hx.2.2.2.2.2.2.2.1
  have hlt : i.toNatClampNeg < n := Nat.not_le.mp fun q => hi (Or.inr q)
  have h0 : ¬ i < 0 := fun q => hi (Or.inl q)
  have hat : H[gb_sz Γ + c]? = some (arrV (Γ.2.2.1 t) n fun j => va_rf ((g.2.2 c j).map (fun a => gb_sz Γ + a))) := by
    rcases ht with rfl | rfl <;> exact hH.2.1 c _ hs
  have fin : ∀ H1 : Heap, H1[gb_sz Γ + c]? = some ((arrV (Γ.2.2.1 t) n fun j => va_rf ((g.2.2 c j).map (fun a => gb_sz Γ + a))).setSlot i.toNatClampNeg (gb_cv Γ (va_rf r))) → H1.size = H.size → (∀ q, q ≠ gb_sz Γ + c → H1[q]? = H[q]?) → gb_H Γ sh (gb_pr g c i.toNatClampNeg r) H1 (locs ++ [⟨gb_sz Γ + c, i.toNatClampNeg⟩]) := fun H1 e1 z oq => by
    refine hH.upd (c := c) hs rfl (fun _ _ => rfl) z oq ?_ (fun a ha => rfl) (fun a ha => rfl) (fun a ha => by simp [gb_pz, ha]) (fun q hq => by rw [List.mem_singleton.mp hq]; show gb_sz Γ ≤ gb_sz Γ + c; omega)
    have e2 : H1[gb_sz Γ + c]? = some (arrV (Γ.2.2.1 t) n fun j => va_rf (((gb_pr g c i.toNatClampNeg r).2.2 c j).map (fun a => gb_sz Γ + a))) := by
      rw [e1, arrV_store]
      congr 2
      funext q
      by_cases hq : q = i.toNatClampNeg
      · subst hq
        cases r <;> simp [updV, va_up, gb_pz, va_rf, gb_cv]
      · simp [updV, va_up, gb_pz, hq]
    rcases ht with rfl | rfl <;> exact e2
  cases r with
  | none =>
    rcases ht with rfl | rfl
    · exact va_WaastN (C := "GladBasket$Program") hx.1 hx.2.1 hat ((hK.k.2 3 _ (gb_tys_at Γ (by decide))).1 n _) (fun h => by cases h) (by rw [arrV_size]; exact hi) rfl rfl hdg fun H1 e1 z oq => k p e R s m args below meth c0 mc ms hx H1 _ cells slots (fin H1 e1 z oq) h1 h2 ls hl
    · exact va_WaastN (C := "GladBasket$Basket") hx.1 hx.2.1 hat ((hK.k.2 4 _ (gb_tys_at Γ (by decide))).1 n _) (fun h => by cases h) (by rw [arrV_size]; exact hi) rfl rfl hdg fun H1 e1 z oq => k p e R s m args below meth c0 mc ms hx H1 _ cells slots (fin H1 e1 z oq) h1 h2 ls hl
  | some v =>
    obtain ⟨ci, ks0, q, hv, hc, hty⟩ := hr v rfl
    obtain ⟨r', hr', cellV, g1, g2, g3, -⟩ := hH.2.1 v _ hv
    have hcls := (hK.k.1 ci q hc).2
    have hra := (hK.k.2 t _ (gb_tys_at Γ (by omega))).2
    have hra : va_RA s (Γ.2.2.1 t) (.object q.1) := by rw [← hty]; exact hra
    obtain ⟨kA, comp, k1, k2, k3, -⟩ := hra
    have hcomp : comp = Γ.2.1.1 ci := Option.some.inj (k3.symm.trans hcls.1)
    subst hcomp
    obtain ⟨kC, hkC, -⟩ := hcls.2
    exact W.aast hx.1 hx.2.1 hat (fun q h => by cases h) (fun h => by cases h) k1 k2 rfl hkC ⟨h0, by rw [arrV_size]; exact hlt⟩ g1 (fun q h => by rw [g3] at h; cases h) (by rw [g2]; exact hkC) (by rw [g2]; exact va_assign hcls) rfl rfl hdg fun H1 e1 z oq => k p e R s m args below meth c0 mc ms hx H1 _ cells slots (fin H1 e1 z oq) h1 h2 ls hl
set_option maxHeartbeats 2000000 in
theorem gb_copy {idx c0 c1 n0 n1 : Nat} {sp dp n : Int32} (hm : Cond.methodLink M.1.cls idx arraycopyName ∈ lw_tbl) (hnat : Cond.native arraycopyName ∈ lw_tbl) (hstat : Cond.static arraycopyName ∈ lw_tbl) (hini : Cond.initialized "java/lang/System" ∈ lw_tbl) (hs0 : sh[c0]? = some (.inl (0, n0))) (hs1 : sh[c1]? = some (.inl (0, n1))) (g1 : ¬ sp < 0) (g2 : ¬ dp < 0) (g3 : ¬ n < 0) (g4 : sp.toNatClampNeg + n.toNatClampNeg ≤ n0) (g5 : dp.toNatClampNeg + n.toNatClampNeg ≤ n1) (hd : 1 ≤ d) (hrest : (st.map fun v => v.category).sum ≤ 8) (hdg : decode M.2.1 pc = .ok (.invokestatic idx, 3))
    (k : gb_J Γ M d Q kc ks sh (gb_pa g c1 (va_cpy (g.1 c0) (g.1 c1) sp.toNatClampNeg dp.toNatClampNeg n.toNatClampNeg)) (pc + 3) lv st) : gb_J Γ M d Q kc ks sh g pc lv (.int n :: .int dp :: .ref c1 :: .int sp :: .ref c0 :: st) := by
  intro p e R s m args below meth c mc ms hx H locs cells slots hH h1 h2 ls hl
  obtain ⟨x1, x2, x3, x4, x5, x6, x7, hK, x9, x10, x11, x12⟩ := id hx
  have nn : ∀ z : Int32, ¬ z < 0 → z.toInt = (z.toNatClampNeg : Int) := by
    intro z hz
    have hz0 : (0 : Int) ≤ z.toInt := by
      have := Int32.not_lt.mp hz
      simpa using Int32.le_iff_toInt_le.mp this
    show z.toInt = ((z.toInt.toNat : Nat) : Int)
    omega
  have hty := (hK.k.2 0 _ (gb_tys_at Γ (by decide))).1
  intro T hT X
  have hc0 : H[gb_sz Γ + c0]? = some (vp_cell (Γ.2.2.1 0) (n0, .inl (g.1 c0))) := hH.2.1 c0 _ hs0
  have hc1 : H[gb_sz Γ + c1]? = some (vp_cell (Γ.2.2.1 0) (n1, .inl (g.1 c1))) := hH.2.1 c1 _ hs1
  obtain ⟨-, k0, hk0, cm0, hkk0⟩ := hty n0 (fun j => .int (g.1 c0 j))
  have hwords : (((st.map (gb_cv Γ)).map fun v => v.category).sum) + (nativeFrameWords "java/lang/System" "arraycopy" 5 + 11) ≤ R.locals := by
    rw [gb_cat]
    have : nativeFrameWords "java/lang/System" "arraycopy" 5 + 11 ≤ 50 := by decide +kernel
    omega
  obtain ⟨vm', X', step⟩ := X.arraycopy x1 x5 (hK.word hm rfl args) (hK.word hnat rfl args) (hK.word hstat rfl args) (hK.word hini rfl args) (src := gb_sz Γ + c0) (dst := gb_sz Γ + c1) (cs := vp_cell (Γ.2.2.1 0) (n0, .inl (g.1 c0))) (cd := vp_cell (Γ.2.2.1 0) (n1, .inl (g.1 c1))) (srcPos := sp) (destPos := dp) (n := n) (by rw [hT]; exact hc0) (by rw [hT]; exact hc1)
    (fun _ h => by cases h) (fun _ h => by cases h) (fun h => by cases h) (fun h => by cases h) hk0 hk0 hkk0 hkk0 (by simp [gb_ty, refKind]) g1 g2 g3
    (by rw [nn sp g1, nn n g3]; show ¬ _ > ((arrV (Γ.2.2.1 0) n0 (fun j => .int (g.1 c0 j))).slots.size : Int); rw [arrV_size]; omega)
    (by rw [nn dp g2, nn n g3]; show ¬ _ > ((arrV (Γ.2.2.1 0) n1 (fun j => .int (g.1 c1 j))).slots.size : Int); rw [arrV_size]; omega)
    (fun vm₁ _ i hi => by
      have e : (vp_cell (Γ.2.2.1 0) (n0, .inl (g.1 c0))).slots.getD (sp.toNatClampNeg + i) .null = .int (g.1 c0 (sp.toNatClampNeg + i)) := by
        show (arrV (Γ.2.2.1 0) n0 (fun j => .int (g.1 c0 j))).slots.getD _ _ = _
        rw [Array.getD_eq_getD_getElem?, arrV_read _ _ (by omega)]
        rfl
      refine ⟨?_, ?_⟩
      · rw [e]
        rfl
      · rw [e]
        exact trivial)
    (g := F0 m pc ls ((.int n :: .int dp :: .ref c1 :: .int sp :: .ref c0 :: st : List Value).map (gb_cv Γ))) rfl (by rw [x4]; exact hl.1) (rest := st.map (gb_cv Γ)) rfl (by rw [x2]; exact hdg) (by omega) (by show 2 * 0 + _ + _ ≤ _; omega)
  have e1 : copied (vp_cell (Γ.2.2.1 0) (n0, .inl (g.1 c0))) (vp_cell (Γ.2.2.1 0) (n1, .inl (g.1 c1))) sp dp n = vp_cell (Γ.2.2.1 0) (n1, .inl (va_cpy (g.1 c0) (g.1 c1) sp.toNatClampNeg dp.toNatClampNeg n.toNatClampNeg)) := va_copied (fun z => .int z) (Γ.2.2.1 0) (Γ.2.2.1 0) (g.1 c0) (g.1 c1) g4
  rw [e1] at X' step
  have hlz : gb_sz Γ + c1 < H.size := (Array.getElem?_eq_some_iff.mp hc1).1
  generalize hf : va_cpy (g.1 c0) (g.1 c1) sp.toNatClampNeg dp.toNatClampNeg n.toNatClampNeg = f at X' step k
  have hheap : ((T.setVm vm').setCell (gb_sz Γ + c1) (vp_cell (Γ.2.2.1 0) (n1, .inl f))).heap = H.setIfInBounds (gb_sz Γ + c1) (vp_cell (Γ.2.2.1 0) (n1, .inl f)) := by rw [← hT]; rfl
  have hH1 : ∀ L : List Loc, (∀ q ∈ L, gb_sz Γ ≤ q.base) → gb_H Γ sh (gb_pa g c1 f) (H.setIfInBounds (gb_sz Γ + c1) (vp_cell (Γ.2.2.1 0) (n1, .inl f))) (locs ++ L) := fun L hL => hH.upd (c := c1) hs1 rfl (fun _ _ => rfl) (by simp) (fun q hq => by simp [Array.getElem?_setIfInBounds, Ne.symm hq])
    (show (H.setIfInBounds (gb_sz Γ + c1) _)[gb_sz Γ + c1]? = some (vp_cell (Γ.2.2.1 0) (n1, .inl ((gb_pa g c1 f).1 c1))) by simp [Array.getElem?_setIfInBounds, hlz, gb_pa]) (fun a ha => by simp [gb_pa, ha]) (fun a ha => rfl) (fun a ha => rfl) hL
  obtain ⟨t, a1, b1⟩ := k p e R s m args below meth c mc ms hx _ _ cells slots (hH1 _ (fun q hq => by
    obtain ⟨z, -, hz⟩ := List.mem_map.mp hq
    rw [← hz]
    show gb_sz Γ ≤ gb_sz Γ + c1
    omega)) h1 h2 ls hl _ hheap X'
  exact ⟨t, step t a1, b1⟩
end GC
