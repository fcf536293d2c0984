/-! ===== new cells, arrays of references, copies, calls ===== -/
def gb_dv (k : Nat) : Value := match k with
  | 0 => .int 0
  | 1 => .long 0
  | _ => .null
/-- a class as an entry names it for 'new' -/
def gb_NW (own : String) (idx ci n : Nat) (ks0 : List Nat) : Prop := ∃ (C : String) (T : u_T) (ty : Nat → FieldType), gb_Cl ci C T n ty ∧ Cond.classLink own idx C ∈ lw_tbl ∧ Cond.instantiable C n ∈ lw_tbl ∧ Cond.initialized C ∈ lw_tbl ∧ (∀ j, j < n → defaultValue (ty j) = gb_dv (ks0.getD j 2)) ∧ ks0.all (fun k => decide (k < 3)) = true
/-- an instance method as an entry names it -/
def gb_LV (own : String) (idx : Nat) (M' : gb_M) (n : Nat) : Prop := Cond.methodLink own idx M'.1 ∈ lw_tbl ∧ Cond.instanceMethod M'.1 ∈ lw_tbl ∧ Cond.selects M'.1.cls M'.1 M'.1 ∈ lw_tbl ∧ Cond.initialized M'.1.cls ∈ lw_tbl ∧ Cond.code M'.1 M'.2.1 M'.2.2.1 M'.2.2.2 ∈ lw_tbl ∧ (M'.1.cls ≠ "java/lang/invoke/MethodHandle" ∧ M'.1.cls ≠ "java/lang/invoke/VarHandle") ∧ (parseMethodDescriptor M'.1.desc).map (fun d => d.parameters.length) = some n ∧ M'.2.2.1 ≤ 40
/-- a static method as an entry names it -/
def gb_LS (own : String) (idx : Nat) (M' : gb_M) (n : Nat) : Prop := Cond.methodLink own idx M'.1 ∈ lw_tbl ∧ Cond.static M'.1 ∈ lw_tbl ∧ Cond.initialized M'.1.cls ∈ lw_tbl ∧ Cond.code M'.1 M'.2.1 M'.2.2.1 M'.2.2.2 ∈ lw_tbl ∧ (M'.1.cls ≠ "java/lang/invoke/MethodHandle" ∧ M'.1.cls ≠ "java/lang/invoke/VarHandle") ∧ (parseMethodDescriptor M'.1.desc).map (fun d => d.parameters.length) = some n ∧ M'.2.2.1 ≤ 40
/-- a constructor as an entry names it -/
def gb_LI (own : String) (idx : Nat) (M' : gb_M) (n : Nat) : Prop := Cond.methodLink own idx M'.1 ∈ lw_tbl ∧ Cond.instanceMethod M'.1 ∈ lw_tbl ∧ M'.1.name = "<init>" ∧ M'.2.2.2 = none ∧ Cond.initialized M'.1.cls ∈ lw_tbl ∧ Cond.code M'.1 M'.2.1 M'.2.2.1 M'.2.2.2 ∈ lw_tbl ∧ (M'.1.cls ≠ "java/lang/invoke/MethodHandle" ∧ M'.1.cls ≠ "java/lang/invoke/VarHandle") ∧ (parseMethodDescriptor M'.1.desc).map (fun d => d.parameters.length) = some n ∧ M'.2.2.1 ≤ 40
/-- a static method, a constructor of a nest mate -/
def gb_LSN (own : String) (idx : Nat) (M' : gb_M) (n : Nat) : Prop := (∃ host, Cond.methodLinkNest own idx M'.1 host ∈ lw_tbl) ∧ Cond.static M'.1 ∈ lw_tbl ∧ Cond.initialized M'.1.cls ∈ lw_tbl ∧ Cond.code M'.1 M'.2.1 M'.2.2.1 M'.2.2.2 ∈ lw_tbl ∧ (M'.1.cls ≠ "java/lang/invoke/MethodHandle" ∧ M'.1.cls ≠ "java/lang/invoke/VarHandle") ∧ (parseMethodDescriptor M'.1.desc).map (fun d => d.parameters.length) = some n ∧ M'.2.2.1 ≤ 40
def gb_LIN (own : String) (idx : Nat) (M' : gb_M) (n : Nat) : Prop := (∃ host, Cond.methodLinkNest own idx M'.1 host ∈ lw_tbl) ∧ Cond.instanceMethod M'.1 ∈ lw_tbl ∧ M'.1.name = "<init>" ∧ M'.2.2.2 = none ∧ Cond.initialized M'.1.cls ∈ lw_tbl ∧ Cond.code M'.1 M'.2.1 M'.2.2.1 M'.2.2.2 ∈ lw_tbl ∧ (M'.1.cls ≠ "java/lang/invoke/MethodHandle" ∧ M'.1.cls ≠ "java/lang/invoke/VarHandle") ∧ (parseMethodDescriptor M'.1.desc).map (fun d => d.parameters.length) = some n ∧ M'.2.2.1 ≤ 40
section GC
variable {Γ : gb_X}
theorem gb_cB {R : Room} {s : State} {args : Array Value} {own : String} {idx : Nat} {M' : gb_M} {n d d' kc' ks' : Nat} (hK : gb_K Γ s) (hm : Cond.methodLink own idx M'.1 ∈ lw_tbl) (hi : Cond.initialized M'.1.cls ∈ lw_tbl) (hc : Cond.code M'.1 M'.2.1 M'.2.2.1 M'.2.2.2 ∈ lw_tbl) (hy : M'.1.cls ≠ "java/lang/invoke/MethodHandle" ∧ M'.1.cls ≠ "java/lang/invoke/VarHandle") (hp : (parseMethodDescriptor M'.1.desc).map (fun d => d.parameters.length) = some n) (hL : M'.2.2.1 ≤ 40)
    (hf : d ≤ R.frames) (hl : 64 * d ≤ R.locals) (hd : d' + 1 ≤ d) : CallB R s args own idx M'.1 M'.2.1 M'.2.2.1 M'.2.2.2 (gb_ws M') (gb_rm d' kc' ks') kc' ks' n := by
  refine ⟨rfl, rfl, Nat.le_trans hd hf, ?_, ?_, List.mem_cons_self, hK.word hc rfl args, hK.word hi rfl args, hy, fun sig h => ?_, hK.word hm rfl args⟩
  · show 8 + (M'.2.2.1 + 11) + 64 * d' ≤ R.locals
    omega
  · intro w hw a' U hW
    rw [List.mem_singleton.mp hw]
    exact (hK.warm hW).word hc rfl a'
  · rw [h] at hp
    exact (Option.some.inj hp).symm
theorem gb_blind {sh : List gb_Sh} {g : gb_G} {A : Array Value} : FrameBlind (fun a U => a = A ∧ gb_H Γ sh g U.heap [] ∧ gb_K Γ U) := fun a U g mk q => ⟨q.1, q.2.1, q.2.2⟩
section GR
variable {p : Program} {l : Launch} {e : Env} {R : Room} {s : State} {m : MethodId} {args : Array Value} {below : List Frame} {meth : Method} {c : Code} {H : Heap} {locs : List Loc} {cells slots : Nat} {Q0 : State → Prop}
theorem gb_run {Q' : gb_P} {a : Array Value} {kc' ks' pc : Nat} {ls : Array Slot} {st0 rest : List Value} (hr : va_Run p l e R s m args below meth c H locs cells slots kc' ks' (F0 m pc ls st0) rest (gb_Q Γ Q' a) (fun q => gb_sz Γ ≤ q)) (hl : ∀ q ∈ locs, gb_sz Γ ≤ q.base)
    (kk : ∀ (sh : List gb_Sh) (g : gb_G) (v : Option Value), Q' sh g v → ∀ (H1 : Heap) (locs1 : List Loc), gb_H Γ sh g H1 locs1 → W p l e R s m args below meth c H1 locs1 (cells + kc') (slots + ks') Q0 (F0 m (pc + 3) ls ((v.map (gb_cv Γ)).toList ++ rest))) : W p l e R s m args below meth c H locs cells slots Q0 (F0 m pc ls st0) := by
  intro T hT X
  obtain ⟨v, st₀, t, T', L, h0, X', hL, e1, e2, ⟨sh, g, v', hv, hq, hH⟩, st⟩ := hr T hT X
  cases hv
  obtain ⟨t2, a1, b1⟩ := kk sh g v' hq T'.heap (locs ++ L) ⟨by rw [e1]; exact hH.1, by rw [e1]; exact hH.2.1, by rw [e1]; exact hH.2.2.1, fun q hq => by
    rcases List.mem_append.mp hq with h | h
    · exact hl q h
    · exact hL q h⟩ T' rfl X'
  exact ⟨t2, st t2 a1, b1⟩
end GR
variable {M M' : gb_M} {d d' : Nat} {Q Q' : gb_P} {kc ks kc' ks' n : Nat} {sh : List gb_Sh} {g : gb_G} {pc : Nat} {lv : List (Nat × Value)} {st : List Value}
theorem gb_toList (v : Option Value) (rest : List Value) : (v.map (gb_cv Γ)).toList ++ rest.map (gb_cv Γ) = (v.toList ++ rest).map (gb_cv Γ) := by cases v <;> rfl
theorem gb_cat (rest : List Value) : ((rest.map (gb_cv Γ)).map fun v => v.category).sum = (rest.map fun v => v.category).sum := by
  rw [List.map_map]
  congr 1
  exact List.map_congr_left fun v _ => gb_cv_cat Γ v
set_option maxHeartbeats 1000000 in
theorem gb_cV {idx a ci : Nat} {ks0 : List Nat} {As st' rest : List Value} (hw : gb_LV M.1.cls idx M' n) (hC : gb_C Γ M' d' kc' ks' sh g (.ref a :: As) Q') (hs : sh[a]? = some (.inr (ci, ks0))) (hci : (vwCl[ci]?).map (fun q => q.1) = some M'.1.cls) (hd : d' + 1 ≤ d) (hkc : kc' ≤ kc) (hks : ks' ≤ ks) (hn : As.length = n) (hst : st' = As.reverse ++ .ref a :: rest) (hrest : (rest.map fun v => v.category).sum ≤ 8) (hdg : decode M.2.1 pc = .ok (.invokevirtual idx, 3))
    (kk : ∀ (sh : List gb_Sh) (g : gb_G) (v : Option Value), Q' sh g v → gb_J Γ M d Q (kc - kc') (ks - ks') sh g (pc + 3) lv (v.toList ++ rest)) : gb_J Γ M d Q kc ks sh g pc lv st' := by
  intro p e R s m args below meth c mc ms hx H locs cells slots hH h1 h2 ls hl
  obtain ⟨hm, hin, hse, hini, hco, hy, hp, hL⟩ := hw
  obtain ⟨x1, x2, x3, x4, x5, x6, x7, hK, x9, x10, x11, x12⟩ := id hx
  have hrecv : ∃ cellB : Cell, H[gb_sz Γ + a]? = some cellB ∧ cellB.vm.isStatics = false ∧ s.vm.findClass M'.1.cls = some cellB.cls := by
    obtain ⟨r, q1, cell, g1, g2, g3, -⟩ := hH.2.1 a _ hs
    have q1 : vwCl[ci]? = some r := q1
    rw [q1] at hci
    have hr : r.1 = M'.1.cls := Option.some.inj hci
    exact ⟨cell, g1, by rw [g3]; rfl, by rw [g2, ← hr]; exact (hK.k.1 ci r q1).2.1⟩
  refine gb_run (Q' := Q') (va_runV (As := As.map (gb_cv Γ)) (rest := rest.map (gb_cv Γ)) (Ts := []) (C := M'.1.cls) ⟨x1, x2, x4, x5, fun w h => by cases h⟩ hC ⟨gb_cB hK hm hini hco hy hp hL x9 x10 hd, hK.word hin rfl args, hK.word hse rfl args⟩
    ⟨gb_blind, hrecv, fun U hU hW => ⟨rfl, by rw [hU]; exact hH.nil, hK.warm hW⟩⟩ rfl (by rw [List.length_map]; exact hn) hl.1 (by rw [hst]; simp [gb_cv]) (by show 2 * 0 + _ ≤ 8; rw [gb_cat]; omega) hdg ⟨by omega, by omega⟩) hH.2.2.2 (fun sh g v hq H1 locs1 hH1 => ?_)
  rw [gb_toList]
  exact kk sh g v hq p e R s m args below meth c mc ms hx H1 locs1 (cells + kc') (slots + ks') hH1 (by omega) (by omega) ls hl
set_option maxHeartbeats 1000000 in
theorem gb_cS {idx : Nat} {As st' rest : List Value} (hw : gb_LS M.1.cls idx M' n) (hC : gb_C Γ M' d' kc' ks' sh g As Q') (hd : d' + 1 ≤ d) (hkc : kc' ≤ kc) (hks : ks' ≤ ks) (hn : As.length = n) (hst : st' = As.reverse ++ rest) (hrest : (rest.map fun v => v.category).sum ≤ 8) (hdg : decode M.2.1 pc = .ok (.invokestatic idx, 3))
    (kk : ∀ (sh : List gb_Sh) (g : gb_G) (v : Option Value), Q' sh g v → gb_J Γ M d Q (kc - kc') (ks - ks') sh g (pc + 3) lv (v.toList ++ rest)) : gb_J Γ M d Q kc ks sh g pc lv st' := by
  intro p e R s m args below meth c mc ms hx H locs cells slots hH h1 h2 ls hl
  obtain ⟨hm, hin, hini, hco, hy, hp, hL⟩ := hw
  obtain ⟨x1, x2, x3, x4, x5, x6, x7, hK, x9, x10, x11, x12⟩ := id hx
  refine gb_run (Q' := Q') (va_runS (As := As.map (gb_cv Γ)) (rest := rest.map (gb_cv Γ)) (Ts := []) ⟨x1, x2, x4, x5, fun w h => by cases h⟩ hC ⟨gb_cB hK hm hini hco hy hp hL x9 x10 hd, hK.word hin rfl args⟩
    ⟨gb_blind, fun U hU hW => ⟨rfl, by rw [hU]; exact hH.nil, hK.warm hW⟩⟩ rfl (by rw [List.length_map]; exact hn) hl.1 (by rw [hst]; simp) (by show 2 * 0 + _ ≤ 8; rw [gb_cat]; omega) hdg ⟨by omega, by omega⟩) hH.2.2.2 (fun sh g v hq H1 locs1 hH1 => ?_)
  rw [gb_toList]
  exact kk sh g v hq p e R s m args below meth c mc ms hx H1 locs1 (cells + kc') (slots + ks') hH1 (by omega) (by omega) ls hl
set_option maxHeartbeats 1000000 in
theorem gb_cI {idx a : Nat} {As st' rest : List Value} (hw : gb_LI M.1.cls idx M' n) (hC : gb_C Γ M' d' kc' ks' sh g (.ref a :: As) Q') (hd : d' + 1 ≤ d) (hkc : kc' ≤ kc) (hks : ks' ≤ ks) (hn : As.length = n) (hst : st' = As.reverse ++ .ref a :: rest) (hrest : (rest.map fun v => v.category).sum ≤ 8) (hdg : decode M.2.1 pc = .ok (.invokespecial idx, 3))
    (kk : ∀ (sh : List gb_Sh) (g : gb_G) (v : Option Value), Q' sh g v → gb_J Γ M d Q (kc - kc') (ks - ks') sh g (pc + 3) lv (v.toList ++ rest)) : gb_J Γ M d Q kc ks sh g pc lv st' := by
  intro p e R s m args below meth c mc ms hx H locs cells slots hH h1 h2 ls hl
  obtain ⟨hm, hin, hnm, hrt, hini, hco, hy, hp, hL⟩ := hw
  obtain ⟨x1, x2, x3, x4, x5, x6, x7, hK, x9, x10, x11, x12⟩ := id hx
  have hB := gb_cB (args := args) (kc' := kc') (ks' := ks') hK hm hini hco hy hp hL x9 x10 hd
  rw [hrt] at hB
  refine gb_run (Q' := Q') (va_runI (b := gb_sz Γ + a) (As := As.map (gb_cv Γ)) (rest := rest.map (gb_cv Γ)) (Ts := []) ⟨x1, x2, x4, x5, fun w h => by cases h⟩ hC ⟨hB, hnm, hK.word hin rfl args⟩
    ⟨gb_blind, fun U hU hW => ⟨rfl, by rw [hU]; exact hH.nil, hK.warm hW⟩⟩ rfl (by rw [List.length_map]; exact hn) hl.1 (by rw [hst]; simp [gb_cv]) (by show 2 * 0 + _ ≤ 8; rw [gb_cat]; omega) hdg ⟨by omega, by omega⟩) hH.2.2.2 (fun sh g v hq H1 locs1 hH1 => ?_)
  rw [gb_toList]
  exact kk sh g v hq p e R s m args below meth c mc ms hx H1 locs1 (cells + kc') (slots + ks') hH1 (by omega) (by omega) ls hl
theorem gb_cN {R : Room} {s : State} {args : Array Value} {own host : String} {idx : Nat} {M' : gb_M} {n d d' kc' ks' : Nat} (hK : gb_K Γ s) (hm : Cond.methodLinkNest own idx M'.1 host ∈ lw_tbl) (hi : Cond.initialized M'.1.cls ∈ lw_tbl) (hc : Cond.code M'.1 M'.2.1 M'.2.2.1 M'.2.2.2 ∈ lw_tbl) (hy : M'.1.cls ≠ "java/lang/invoke/MethodHandle" ∧ M'.1.cls ≠ "java/lang/invoke/VarHandle") (hp : (parseMethodDescriptor M'.1.desc).map (fun d => d.parameters.length) = some n) (hL : M'.2.2.1 ≤ 40)
    (hf : d ≤ R.frames) (hl : 64 * d ≤ R.locals) (hd : d' + 1 ≤ d) : va_CN R s args own idx M'.1 host M'.2.1 M'.2.2.1 M'.2.2.2 (gb_ws M') (gb_rm d' kc' ks') kc' ks' n := by
  have hN : va_Nw (.methodLinkNest own idx M'.1 host) s := va_Nw.warmM hK.2.2 (va_Nw.of rfl (hK.1.1 _ hm))
  refine ⟨⟨rfl, rfl, Nat.le_trans hd hf, ?_, ?_, List.mem_cons_self⟩, hK.word hc rfl args, hK.word hi rfl args, hy, fun sig h => ?_, va_Nw.use rfl hN⟩
  · show 8 + (M'.2.2.1 + 11) + 64 * d' ≤ R.locals
    omega
  · intro w hw a' U hW
    rw [List.mem_singleton.mp hw]
    exact (hK.warm hW).word hc rfl a'
  · rw [h] at hp
    exact (Option.some.inj hp).symm
set_option maxHeartbeats 1000000 in
theorem gb_cSN {idx : Nat} {As st' rest : List Value} (hw : gb_LSN M.1.cls idx M' n) (hC : gb_C Γ M' d' kc' ks' sh g As Q') (hd : d' + 1 ≤ d) (hkc : kc' ≤ kc) (hks : ks' ≤ ks) (hn : As.length = n) (hst : st' = As.reverse ++ rest) (hrest : (rest.map fun v => v.category).sum ≤ 8) (hdg : decode M.2.1 pc = .ok (.invokestatic idx, 3))
    (kk : ∀ (sh : List gb_Sh) (g : gb_G) (v : Option Value), Q' sh g v → gb_J Γ M d Q (kc - kc') (ks - ks') sh g (pc + 3) lv (v.toList ++ rest)) : gb_J Γ M d Q kc ks sh g pc lv st' := by
  intro p e R s m args below meth c mc ms hx H locs cells slots hH h1 h2 ls hl
  obtain ⟨⟨host, hm⟩, hin, hini, hco, hy, hp, hL⟩ := hw
  obtain ⟨x1, x2, x3, x4, x5, x6, x7, hK, x9, x10, x11, x12⟩ := id hx
  refine gb_run (Q' := Q') (va_runSN (As := As.map (gb_cv Γ)) (rest := rest.map (gb_cv Γ)) (Ts := []) ⟨x1, x2, x4, x5, fun w h => by cases h⟩ hC ⟨gb_cN hK hm hini hco hy hp hL x9 x10 hd, hK.word hin rfl args, trivial⟩
    ⟨gb_blind, fun U hU hW => ⟨rfl, by rw [hU]; exact hH.nil, hK.warm hW⟩⟩ rfl (by rw [List.length_map]; exact hn) hl.1 (by rw [hst]; simp) (by show 2 * 0 + _ ≤ 8; rw [gb_cat]; omega) hdg ⟨by omega, by omega⟩) hH.2.2.2 (fun sh g v hq H1 locs1 hH1 => ?_)
  rw [gb_toList]
  exact kk sh g v hq p e R s m args below meth c mc ms hx H1 locs1 (cells + kc') (slots + ks') hH1 (by omega) (by omega) ls hl
set_option maxHeartbeats 1000000 in
theorem gb_cIN {idx a : Nat} {As st' rest : List Value} (hw : gb_LIN M.1.cls idx M' n) (hC : gb_C Γ M' d' kc' ks' sh g (.ref a :: As) Q') (hd : d' + 1 ≤ d) (hkc : kc' ≤ kc) (hks : ks' ≤ ks) (hn : As.length = n) (hst : st' = As.reverse ++ .ref a :: rest) (hrest : (rest.map fun v => v.category).sum ≤ 8) (hdg : decode M.2.1 pc = .ok (.invokespecial idx, 3))
    (kk : ∀ (sh : List gb_Sh) (g : gb_G) (v : Option Value), Q' sh g v → gb_J Γ M d Q (kc - kc') (ks - ks') sh g (pc + 3) lv (v.toList ++ rest)) : gb_J Γ M d Q kc ks sh g pc lv st' := by
  intro p e R s m args below meth c mc ms hx H locs cells slots hH h1 h2 ls hl
  obtain ⟨⟨host, hm⟩, hin, hnm, hrt, hini, hco, hy, hp, hL⟩ := hw
  obtain ⟨x1, x2, x3, x4, x5, x6, x7, hK, x9, x10, x11, x12⟩ := id hx
  have hB := gb_cN (args := args) (kc' := kc') (ks' := ks') hK hm hini hco hy hp hL x9 x10 hd
  rw [hrt] at hB
  refine gb_run (Q' := Q') (va_runIN (b := gb_sz Γ + a) (As := As.map (gb_cv Γ)) (rest := rest.map (gb_cv Γ)) (Ts := []) ⟨x1, x2, x4, x5, fun w h => by cases h⟩ hC ⟨hB, hnm, hK.word hin rfl args⟩
    ⟨gb_blind, fun U hU hW => ⟨rfl, by rw [hU]; exact hH.nil, hK.warm hW⟩⟩ rfl (by rw [List.length_map]; exact hn) hl.1 (by rw [hst]; simp [gb_cv]) (by show 2 * 0 + _ ≤ 8; rw [gb_cat]; omega) hdg ⟨by omega, by omega⟩) hH.2.2.2 (fun sh g v hq H1 locs1 hH1 => ?_)
  rw [gb_toList]
  exact kk sh g v hq p e R s m args below meth c mc ms hx H1 locs1 (cells + kc') (slots + ks') hH1 (by omega) (by omega) ls hl
/-- Object() -/
theorem gb_obj {idx a : Nat} (hm : Cond.methodLink M.1.cls idx objectInit ∈ lw_tbl) (hin : Cond.instanceMethod objectInit ∈ lw_tbl) (hco : Cond.code objectInit ⟨#[0xb1]⟩ 1 none ∈ lw_tbl) (hd : 1 ≤ d) (hrest : (st.map fun v => v.category).sum ≤ 8) (hdg : decode M.2.1 pc = .ok (.invokespecial idx, 3)) (k : gb_J Γ M d Q kc ks sh g (pc + 3) lv st) : gb_J Γ M d Q kc ks sh g pc lv (.ref a :: st) := by
  intro p e R s m args below meth c mc ms hx H locs cells slots hH h1 h2 ls hl
  obtain ⟨x1, x2, x3, x4, x5, x6, x7, hK, x9, x10, x11, x12⟩ := id hx
  exact W.objInit x1 x2 x5 (hK.word hm rfl args) (hK.word hin rfl args) (hK.word hco rfl args) rfl (by rw [x4]; exact hl.1) rfl hdg (by omega) (by show 2 * 0 + ((st.map (gb_cv Γ)).map fun v => v.category).sum + 12 ≤ _; rw [gb_cat]; omega) (k p e R s m args below meth c mc ms hx H locs cells slots hH h1 h2 ls hl)
set_option maxHeartbeats 1000000 in
theorem gb_new {idx ci n : Nat} {ks0 : List Nat} (hf : gb_NW M.1.cls idx ci n ks0) (hkc : 1 ≤ kc) (hks : n ≤ ks) (hdg : decode M.2.1 pc = .ok (.new idx, 3)) (k : gb_J Γ M d Q (kc - 1) (ks - n) (sh ++ [.inr (ci, ks0)]) (gb_z g sh.length) (pc + 3) lv (.ref sh.length :: st)) : gb_J Γ M d Q kc ks sh g pc lv st := by
  intro p e R s m args below meth c mc ms hx H locs cells slots hH h1 h2 ls hl
  obtain ⟨x1, x2, x3, x4, x5, x6, x7, hK, x9, x10, x11, x12⟩ := id hx
  obtain ⟨C, T, ty, ⟨hc, hin, hty, hnm⟩, hcl, hins, hini, hdv, hall⟩ := hf
  have hKn := hK.k.1 ci _ hc
  refine W.newcK x1 x2 x5 (hK.word hcl rfl args) (hK.word hins rfl args) (hK.word hini rfl args) rfl hdg (by omega) (by omega) hKn.2.1 hH.1 fun H1 kC hkC e1 z1 o1 => ?_
  refine k p e R s m args below meth c mc ms hx H1 locs (cells + 1) (slots + n) (hH.grow (by rw [z1, hH.1]) (fun q hq => o1 q (by rw [← hH.1]; exact hq)) ⟨_, hc, (u_born ty (gb_lays hK hin args) (fun _ h => h) hKn hkC e1 hty).to (fun j hj => ?_)⟩) (by omega) (by omega) ls hl
  show defaultValue (ty j) = vp_V (gb_fs Γ _ _ ks0) j
  rw [hdv j hj]
  simp only [vp_V, gb_fs, List.getD_eq_getElem?_getD, List.getElem?_mapIdx]
  cases hk : ks0[j]? with
  | none => rfl
  | some k0 =>
    have hlt : k0 < 3 := by
      have := List.all_eq_true.mp hall k0 (List.mem_of_getElem? hk)
      simpa using this
    match k0, hlt with
    | 0, _ => simp [gb_dv, gb_fv, gb_z]
    | 1, _ => simp [gb_dv, gb_fv, gb_z]
    | 2, _ => rfl
set_option maxHeartbeats 1000000 in
theorem gb_newarr {atype : ArrayType} {t N : Nat} {i : Int32} (hat : newarray.typeOf atype = gb_ty t) (ht : t < 3) (hw : Cond.arrayClass (gb_ty t) ∈ lw_tbl) (hi : ¬ i < 0) (hN : i.toNatClampNeg = N) (hNb : N ≤ 60000) (hkc : 1 ≤ kc) (hks : N ≤ ks) (hdg : decode M.2.1 pc = .ok (.newarray atype, 2)) (k : gb_J Γ M d Q (kc - 1) (ks - N) (sh ++ [.inl (t, N)]) (gb_z g sh.length) (pc + 2) lv (.ref sh.length :: st)) : gb_J Γ M d Q kc ks sh g pc lv (.int i :: st) := by
  intro p e R s m args below meth c mc ms hx H locs cells slots hH h1 h2 ls hl
  obtain ⟨x1, x2, x3, x4, x5, x6, x7, hK, x9, x10, x11, x12⟩ := id hx
  have hra := (hK.k.2 t _ (gb_tys_at Γ (by omega))).2
  have hbt : N * componentBytes (newarray.typeOf atype) ≤ 536870912 := by
    rw [hat]
    have : componentBytes (gb_ty t) ≤ 8 := by
      match t, ht with
      | 0, _ => decide
      | 1, _ => decide
      | 2, _ => decide
    calc N * componentBytes (gb_ty t) ≤ 60000 * 8 := Nat.mul_le_mul hNb this
      _ ≤ 536870912 := by decide
  refine va_newaK x1 x2 (by rw [hat]; exact word_at hK.2.2 (Or.inr ⟨_, rfl⟩) (hK.1.1 _ hw)) rfl hdg rfl hi hN hbt (by omega) (by omega) hH.1 fun H1 cA e1 z1 o1 hAr hNm => ?_
  have hcA : cA = Γ.2.2.1 t := by
    rw [hat] at hNm
    match t, ht, hra, hNm with
    | 0, _, hra, hNm => exact Option.some.inj (hNm.symm.trans hra)
    | 1, _, hra, hNm => exact Option.some.inj (hNm.symm.trans hra)
    | 2, _, hra, hNm => exact Option.some.inj (hNm.symm.trans hra)
  subst hcA
  refine k p e R s m args below meth c mc ms hx H1 locs (cells + 1) (slots + N) (hH.grow (by rw [z1, hH.1]) (fun q hq => o1 q (by rw [← hH.1]; exact hq)) ?_) (by omega) (by omega) ls hl
  show H1[gb_sz Γ + sh.length]? = some (vp_cell (Γ.2.2.1 t) (N, gb_ct Γ (gb_z g sh.length) sh.length t))
  rw [e1, hat]
  match t, ht with
  | 0, _ => simp [gb_ct, vp_cell_i, gb_z, gb_ty, defaultValue]
  | 1, _ => simp [gb_ct, vp_cell_l, gb_z, gb_ty, defaultValue]
  | 2, _ => simp [gb_ct, vp_cell_i, gb_z, gb_ty, defaultValue]
set_option maxHeartbeats 1000000 in
theorem gb_anew {idx t N : Nat} {C : String} {i : Int32} (hC : gb_ty t = .object C) (ht : t = 3 ∨ t = 4) (hcl : Cond.classLink M.1.cls idx C ∈ lw_tbl) (hw : Cond.arrayOver (.object C) ∈ lw_tbl) (hi : ¬ i < 0) (hN : i.toNatClampNeg = N) (hNb : N ≤ 60000) (hkc : 1 ≤ kc) (hks : N ≤ ks) (hdg : decode M.2.1 pc = .ok (.anewarray idx, 3)) (k : gb_J Γ M d Q (kc - 1) (ks - N) (sh ++ [.inl (t, N)]) (gb_z g sh.length) (pc + 3) lv (.ref sh.length :: st)) : gb_J Γ M d Q kc ks sh g pc lv (.int i :: st) := by
  intro p e R s m args below meth c mc ms hx H locs cells slots hH h1 h2 ls hl
  obtain ⟨x1, x2, x3, x4, x5, x6, x7, hK, x9, x10, x11, x12⟩ := id hx
  subst hN
  have hover : va_AO C s := va_AO.moved hK.2.2.alike (va_Nw.of rfl (hK.1.1 _ hw))
  refine W.anew x1 x2 x5 (hK.word hcl rfl args) (va_AO.use hover) rfl hdg rfl hi (by omega) (by omega) (by omega) fun cA kA comp f1 f2 f3 f4 => ?_
  generalize hH1 : H.push ({ cls := cA, slots := Array.replicate i.toNatClampNeg .null, vm := .none } : Cell) = H1
  have z1 : H1.size = H.size + 1 := by rw [← hH1, Array.size_push]
  have e1 : H1[H.size]? = some (arrV cA i.toNatClampNeg (fun _ => .null)) := by rw [← hH1, Array.getElem?_push_size, ← arrV_new]
  have o1 : ∀ q : Nat, q < H.size → H1[q]? = H[q]? := fun q hq => by rw [← hH1, Array.getElem?_push, if_neg (Nat.ne_of_lt hq)]
  have hcA : cA = Γ.2.2.1 t := by
    rcases ht with rfl | rfl
    · obtain ⟨kA', comp', -, -, -, k4⟩ := (hK.k.2 3 _ (gb_tys_at Γ (by decide))).2
      cases hC
      exact Option.some.inj (f1.symm.trans k4)
    · obtain ⟨kA', comp', -, -, -, k4⟩ := (hK.k.2 4 _ (gb_tys_at Γ (by decide))).2
      cases hC
      exact Option.some.inj (f1.symm.trans k4)
  subst hcA
  have hk := k p e R s m args below meth c mc ms hx H1 locs (cells + 1) (slots + i.toNatClampNeg) (hH.grow z1 o1 (by
    show H1[gb_sz Γ + sh.length]? = some (vp_cell (Γ.2.2.1 t) (i.toNatClampNeg, gb_ct Γ (gb_z g sh.length) sh.length t))
    rw [← hH.1, e1]
    rcases ht with rfl | rfl <;> simp [gb_ct, vp_cell_q, gb_z, va_rf])) (by omega) (by omega) ls hl
  rw [show ((Value.ref sh.length :: st).map (gb_cv Γ)) = Value.ref H.size :: st.map (gb_cv Γ) by rw [hH.1]; rfl] at hk
  exact hk
end GC
