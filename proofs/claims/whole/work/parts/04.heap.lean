/-! ===== the heap: fields, arrays, new cells ===== -/
def gb_pa (g : gb_G) (c : Nat) (f : Nat → Int32) : gb_G := (fun a => if a = c then f else g.1 a, g.2)
def gb_pl (g : gb_G) (c : Nat) (f : Nat → Int64) : gb_G := (g.1, fun a => if a = c then f else g.2.1 a, g.2.2)
def gb_pz (g : gb_G) (c : Nat) (f : Nat → Option Nat) : gb_G := (g.1, g.2.1, fun a => if a = c then f else g.2.2 a)
abbrev gb_pi (g : gb_G) (c j : Nat) (v : Int32) : gb_G := gb_pa g c (upd (g.1 c) j v)
abbrev gb_pj (g : gb_G) (c j : Nat) (v : Int64) : gb_G := gb_pl g c (vp_updL (g.2.1 c) j v)
abbrev gb_pr (g : gb_G) (c j : Nat) (v : Option Nat) : gb_G := gb_pz g c (va_up (g.2.2 c) j v)
/-- a new cell: all 0 and null -/
def gb_z (g : gb_G) (c : Nat) : gb_G := (fun a => if a = c then fun _ => 0 else g.1 a, fun a => if a = c then fun _ => 0 else g.2.1 a, fun a => if a = c then fun _ => none else g.2.2 a)
theorem gb_en_ne {Γ : gb_X} {g g' : gb_G} {c : Nat} (h1 : g'.1 c = g.1 c) (h2 : g'.2.1 c = g.2.1 c) (h3 : g'.2.2 c = g.2.2 c) (x : gb_Sh) : gb_en Γ g' c x = gb_en Γ g c x := by
  have e : gb_fv Γ g' c = gb_fv Γ g c := by
    funext j k
    match k with
    | 0 => simp only [gb_fv, h1]
    | 1 => simp only [gb_fv, h2]
    | 2 => rfl
    | k + 3 => rfl
  cases x with
  | inl q =>
    have e2 : gb_ct Γ g' c q.1 = gb_ct Γ g c q.1 := by unfold gb_ct; rw [h1, h2, h3]
    simp only [gb_en, e2]
  | inr q => simp only [gb_en, gb_fs, e]
theorem gb_H.upd {Γ : gb_X} {sh sh' : List gb_Sh} {g g' : gb_G} {H H1 : Heap} {locs L : List Loc} (hH : gb_H Γ sh g H locs) {c : Nat} {x' : gb_Sh} (hs : sh'[c]? = some x') (hl : sh'.length = sh.length) (hne : ∀ a, a ≠ c → sh'[a]? = sh[a]?)
    (hz : H1.size = H.size) (ho : ∀ q, q ≠ gb_sz Γ + c → H1[q]? = H[q]?) (hat : va_at Γ.2.1 vwCl (gb_sz Γ + c, gb_en Γ g' c x') H1) (h1 : ∀ a, a ≠ c → g'.1 a = g.1 a) (h2 : ∀ a, a ≠ c → g'.2.1 a = g.2.1 a) (h3 : ∀ a, a ≠ c → g'.2.2 a = g.2.2 a) (hL : ∀ q ∈ L, gb_sz Γ ≤ q.base) : gb_H Γ sh' g' H1 (locs ++ L) := by
  refine ⟨by rw [hz, hl]; exact hH.1, fun a x hx => ?_, fun q hq => ?_, fun q hq => ?_⟩
  · by_cases ha : a = c
    · subst ha
      cases hs.symm.trans hx
      exact hat
    · rw [hne a ha] at hx
      rw [gb_en_ne (h1 a ha) (h2 a ha) (h3 a ha)]
      exact (hH.2.1 a x hx).kept (ho _ (by omega))
  · rw [ho q (by omega)]
    exact hH.2.2.1 q hq
  · rcases List.mem_append.mp hq with h | h
    · exact hH.2.2.2 q h
    · exact hL q h
theorem gb_H.grow {Γ : gb_X} {sh : List gb_Sh} {g : gb_G} {H H1 : Heap} {locs : List Loc} (hH : gb_H Γ sh g H locs) {x : gb_Sh} (hz : H1.size = H.size + 1) (ho : ∀ q, q < H.size → H1[q]? = H[q]?) (hat : va_at Γ.2.1 vwCl (gb_sz Γ + sh.length, gb_en Γ (gb_z g sh.length) sh.length x) H1) : gb_H Γ (sh ++ [x]) (gb_z g sh.length) H1 locs := by
  refine ⟨by rw [hz, hH.1]; simp; omega, fun a y hy => ?_, fun q hq => ?_, hH.2.2.2⟩
  · by_cases ha : a < sh.length
    · rw [List.getElem?_append_left ha] at hy
      have hne : a ≠ sh.length := by omega
      rw [gb_en_ne (g := g) (by simp [gb_z, hne]) (by simp [gb_z, hne]) (by simp [gb_z, hne])]
      exact (hH.2.1 a y hy).kept (ho _ (by rw [hH.1]; show gb_sz Γ + a < _; omega))
    · rw [List.getElem?_append_right (by omega)] at hy
      have h0 : a - sh.length < 1 := (List.getElem?_eq_some_iff.mp hy).1
      have h1 : a = sh.length := by omega
      subst h1
      simp at hy
      subst hy
      exact hat
  · rw [ho q (by rw [hH.1]; omega)]
    exact hH.2.2.1 q hq
/-- a class: its place among the classes, its fields -/
def gb_Cl (ci : Nat) (C : String) (T : u_T) (N : Nat) (ty : Nat → FieldType) : Prop := vwCl[ci]? = some (C, T, N) ∧ (∀ w ∈ u_ws C T N, w ∈ lw_tbl) ∧ (∀ k, k < N → parseFieldDescriptor (T k).2.2.1 = some (ty k)) ∧ (∀ a, a < N → ∀ b, b < N → a ≠ b → (T a).2.1 ≠ (T b).2.1)
/-- a field as an entry of a class names it -/
def gb_FL (own : String) (idx ci j : Nat) (fin : Bool) (t : FieldType) : Prop := ∃ (C : String) (T : u_T) (N : Nat) (ty : Nat → FieldType), gb_Cl ci C T N ty ∧ j < N ∧ Cond.fieldLink own idx (T j).1 (T j).2.1 (T j).2.2.1 ∈ lw_tbl ∧ (T j).2.2.2 = fin ∧ (T j).1 = C ∧ ty j = t
theorem gb_lays {Γ : gb_X} {U : State} (hK : gb_K Γ U) {C : String} {T : u_T} {N : Nat} (hin : ∀ w ∈ u_ws C T N, w ∈ lw_tbl) (args : Array Value) : ∀ w ∈ u_ws C T N, w.before args U = true := by
  intro w hw
  refine hK.word (hin w hw) ?_ args
  obtain ⟨k, -, rfl⟩ := List.mem_map.mp hw
  unfold u_lay
  split <;> rfl
theorem gb_fs_get {Γ : gb_X} {g : gb_G} {c j k : Nat} {ks : List Nat} (h : ks[j]? = some k) : (gb_fs Γ g c ks)[j]? = some (gb_fv Γ g c j k) := by
  unfold gb_fs
  rw [List.getElem?_mapIdx, h]
  rfl
section GP
variable {p : Program} {l : Launch} {e : Env} {R : Room} {s : State} {m : MethodId} {args : Array Value} {below : List Frame} {meth : Method} {c0 : Code} {H : Heap} {locs : List Loc} {cells slots : Nat} {Q0 : State → Prop}
variable {cc : ByteArray} {pc : Nat} {ls : Array Slot} {rest : List Value} {Γ : gb_X}
set_option maxHeartbeats 1000000 in
theorem gb_put0 (hexec : p.tables.exec = Jvm.exec) (hb : c0.code = cc) {own : String} {idx ci j : Nat} {fin : Bool} {t : FieldType} (hf : gb_FL own idx ci j fin t) (hfin : fin = true → meth.name = "<init>" ∧ (vwCl[ci]?).map (fun q => q.1) = some own) (hK : gb_K Γ s) (hown : s.vm.findClass own = some m.cls) {a : Nat} {fs : List Value} (hat : va_at Γ.2.1 vwCl (a, .inr (ci, fs)) H)
    {v : Value} (hn : narrow t v = v) (hfit : fits t v = true) (hl : j < fs.length) (hdg : decode cc pc = .ok (.putfield idx, 3))
    (kk : ∀ (H1 : Heap) (i : Nat), H1.size = H.size → (∀ q, q ≠ a → H1[q]? = H[q]?) → va_at Γ.2.1 vwCl (a, .inr (ci, fs.set j v)) H1 → W p l e R s m args below meth c0 H1 (locs ++ [⟨a, i⟩]) cells slots Q0 (F0 m (pc + 3) ls rest)) : W p l e R s m args below meth c0 H locs cells slots Q0 (F0 m pc ls (v :: .ref a :: rest)) := by
  obtain ⟨C, T, N, ty, ⟨hc, hin, hty, hnm⟩, hj, hw, hfn, hdecl, rfl⟩ := hf
  have hts := gb_lays hK hin args
  have hKk := hK.k
  have hap := va_apart (own := own) hts (fun _ h => h) ty hty hnm hKk hc
  obtain ⟨r, h1, cell, q1, q2, q3, q4⟩ := hat
  have hr : r = (C, T, N) := Option.some.inj (h1.symm.trans hc)
  subst hr
  obtain ⟨hS, hfc, kC, hkC, hkind⟩ := hKk.1 ci _ hc
  obtain ⟨cf, kf, fi, f, hi, hsl⟩ := hS j hj
  have hlay := hts _ (u_in_lay hj)
  have hst := (u_facts hfc hkC (u_lays hts (fun _ h => h) hj) hi).1
  have hlink := hK.word hw rfl args
  have hd := hty j hj
  have fin2 : ∀ H1 : Heap, H1[a]? = some (cell.setSlot f.slot v) → va_at Γ.2.1 vwCl (a, .inr (ci, fs.set j v)) H1 := fun H1 e1 => by
    rw [hsl] at e1
    exact ⟨_, hc, t_OB.to (V := updV (vp_V fs) j v) ⟨_, e1, q2, q3, t_set q4 hap hj v⟩ (fun k _ => vp_updV_set hl v k)⟩
  cases fin with
  | false =>
    unfold u_lay at hlay
    rw [if_neg (by rw [hfn]; decide)] at hlay
    have h6 := u_store hfc hkC hkind hlay hi hd hn hfit
    exact W.putK hexec hb (f := f) ⟨hown, hlink, ⟨_, _, _, hi⟩, hst⟩ (by rw [q2]; exact h6) q1 q3 (by rw [hsl]; exact k2_hasslot (q4 j hj)) rfl rfl hdg fun H' e1 e2 e3 => kk H' _ e2 e3 (fin2 H' e1)
  | true =>
    unfold u_lay at hlay
    rw [if_pos hfn] at hlay
    have hcf : m.cls = cf := by
      obtain ⟨_, _, c', _, _, _, -, -, hf', -, -, -, hown2, -⟩ := Cond.laysFinal_spec hlay
      have e1 : c' = cf := by have := hi.symm.trans hf'; simp at this; exact this.1.symm
      have hco : C = own := by
        have h9 := (hfin rfl).2
        rw [hc] at h9
        exact Option.some.inj h9
      rw [hdecl, hco] at hown2
      rw [← e1]; exact Option.some.inj (hown.symm.trans hown2)
    have h6 := u_fits hfc hkC hkind (Or.inr hlay) hi hd hn hfit
    exact W.putFinK hexec hb hown hlink hi hst hcf (hfin rfl).1 (by rw [q2]; exact h6) q1 q3 (by rw [hsl]; exact k2_hasslot (q4 j hj)) rfl rfl hdg fun H' e1 e2 e3 => kk H' _ e2 e3 (fin2 H' e1)
end GP
theorem gb_tys_at (Γ : gb_X) {t : Nat} (h : t < 5) : (gb_tys Γ)[t]? = some (Γ.2.2.1 t, gb_ty t) := by
  unfold gb_tys
  rw [List.getElem?_map, List.getElem?_range h]
  rfl
section GB2
variable {Γ : gb_X} {M : gb_M} {d : Nat} {Q : gb_P} {kc ks : Nat} {sh : List gb_Sh} {g : gb_G} {pc : Nat} {lv : List (Nat × Value)} {st : List Value}
theorem gb_get0 {idx ci j c k0 : Nat} {fin : Bool} {t : FieldType} {ks' : List Nat} {v : Value} (hf : gb_FL M.1.cls idx ci j fin t) (hs : sh[c]? = some (.inr (ci, ks'))) (hk : ks'[j]? = some k0) (hv : gb_fv Γ g c j k0 = gb_cv Γ v) (hdg : decode M.2.1 pc = .ok (.getfield idx, 3)) (k : gb_J Γ M d Q kc ks sh g (pc + 3) lv (v :: st)) : gb_J Γ M d Q kc ks sh g pc lv (.ref c :: st) := by
  intro p e R s m args below meth c0 mc ms hx H locs cells slots hH h1 h2 ls hl
  obtain ⟨C, T, N, ty, ⟨hc, hin, hty, hnm⟩, hj, hw, -, -, -⟩ := hf
  have hK := hx.2.2.2.2.2.2.2.1
  have hP : va_P Γ.2.1 vwCl [(gb_sz Γ + c, gb_en Γ g c (.inr (ci, ks')))] H := fun i q hq => by
    have : i < 1 := (List.getElem?_eq_some_iff.mp hq).1
    rw [show i = 0 by omega] at hq
    cases hq
    exact hH.2.1 c _ hs
  refine va_get (fs := gb_fs Γ g c ks') hx.1 hx.2.1 (gb_lays hK hin args) (fun _ h => h) hx.2.2.2.2.1 hK.k hP 0 rfl hc j hj (hK.word hw rfl args) (fun _ h => h) (gb_fs_get hk) hdg ?_
  rw [hv]
  exact k p e R s m args below meth c0 mc ms hx H locs cells slots hH h1 h2 ls hl
theorem gb_geti {idx ci j c : Nat} {fin : Bool} {t : FieldType} {ks' : List Nat} (hf : gb_FL M.1.cls idx ci j fin t) (hs : sh[c]? = some (.inr (ci, ks'))) (hk : ks'[j]? = some 0) (hdg : decode M.2.1 pc = .ok (.getfield idx, 3)) (k : gb_J Γ M d Q kc ks sh g (pc + 3) lv (.int (g.1 c j) :: st)) : gb_J Γ M d Q kc ks sh g pc lv (.ref c :: st) := gb_get0 hf hs hk rfl hdg k
theorem gb_getl {idx ci j c : Nat} {fin : Bool} {t : FieldType} {ks' : List Nat} (hf : gb_FL M.1.cls idx ci j fin t) (hs : sh[c]? = some (.inr (ci, ks'))) (hk : ks'[j]? = some 1) (hdg : decode M.2.1 pc = .ok (.getfield idx, 3)) (k : gb_J Γ M d Q kc ks sh g (pc + 3) lv (.long (g.2.1 c j) :: st)) : gb_J Γ M d Q kc ks sh g pc lv (.ref c :: st) := gb_get0 hf hs hk rfl hdg k
theorem gb_getr {idx ci j c r : Nat} {fin : Bool} {t : FieldType} {ks' : List Nat} (hf : gb_FL M.1.cls idx ci j fin t) (hs : sh[c]? = some (.inr (ci, ks'))) (hk : ks'[j]? = some (r + 3)) (hdg : decode M.2.1 pc = .ok (.getfield idx, 3)) (k : gb_J Γ M d Q kc ks sh g (pc + 3) lv (.ref r :: st)) : gb_J Γ M d Q kc ks sh g pc lv (.ref c :: st) := gb_get0 hf hs hk rfl hdg k
theorem gb_fs_set {Γ : gb_X} {g g' : gb_G} {c j k0 : Nat} {ks' : List Nat} {v : Value} (hj : j < ks'.length) (hv : gb_fv Γ g' c j k0 = v) (ho : ∀ i k, i ≠ j → gb_fv Γ g' c i k = gb_fv Γ g c i k) : (gb_fs Γ g c ks').set j v = gb_fs Γ g' c (ks'.set j k0) := by
  apply List.ext_getElem?
  intro i
  unfold gb_fs
  rw [List.getElem?_mapIdx, List.getElem?_set]
  by_cases h : j = i
  · subst h
    simp [hj, hv]
  · rw [if_neg h, List.getElem?_mapIdx, List.getElem?_set, if_neg h]
    cases ks'[i]? with
    | none => rfl
    | some k => simp [ho i k (Ne.symm h)]
theorem gb_fs_len (Γ : gb_X) (g : gb_G) (c : Nat) (ks' : List Nat) : (gb_fs Γ g c ks').length = ks'.length := by simp [gb_fs]
theorem gb_set_self {α : Type} {l : List α} {j : Nat} {x : α} (h : l[j]? = some x) : l.set j x = l := by
  apply List.ext_getElem?
  intro i
  rw [List.getElem?_set]
  by_cases hj : j = i
  · subst hj
    rw [if_pos rfl, h, if_pos (List.getElem?_eq_some_iff.mp h).1]
  · rw [if_neg hj]
theorem gb_puti {idx ci j c : Nat} {fin : Bool} {t : FieldType} {ks' : List Nat} {v : Int32} (hf : gb_FL M.1.cls idx ci j fin t) (hfin : fin = true → M.1.name = "<init>" ∧ (vwCl[ci]?).map (fun q => q.1) = some M.1.cls) (hs : sh[c]? = some (.inr (ci, ks'))) (hk : ks'[j]? = some 0) (hn : narrow t (.int v) = .int v) (hfit : fits t (.int v) = true) (hdg : decode M.2.1 pc = .ok (.putfield idx, 3)) (k : gb_J Γ M d Q kc ks sh (gb_pi g c j v) (pc + 3) lv st) : gb_J Γ M d Q kc ks sh g pc lv (.int v :: .ref c :: st) := by
  intro p e R s m args below meth c0 mc ms hx H locs cells slots hH h1 h2 ls hl
  have hjl : j < ks'.length := (List.getElem?_eq_some_iff.mp hk).1
  refine gb_put0 hx.1 hx.2.1 hf (fun h => ⟨(hx.2.2.2.2.2.2.1).trans (hfin h).1, (hfin h).2⟩) hx.2.2.2.2.2.2.2.1 hx.2.2.2.2.1 (hH.2.1 c _ hs) hn hfit (by rw [gb_fs_len]; exact hjl) hdg (fun H1 i hz ho hat => ?_)
  refine k p e R s m args below meth c0 mc ms hx H1 _ cells slots (hH.upd (c := c) hs rfl (fun _ _ => rfl) hz ho ?_ (fun a ha => by simp [gb_pa, ha]) (fun a ha => rfl) (fun a ha => rfl) (fun q hq => by rw [List.mem_singleton.mp hq]; show gb_sz Γ ≤ gb_sz Γ + c; omega)) h1 h2 ls hl
  have hat : va_at Γ.2.1 vwCl (gb_sz Γ + c, .inr (ci, (gb_fs Γ g c ks').set j (.int v))) H1 := hat
  rw [gb_fs_set (Γ := Γ) (c := c) (v := .int v) (g' := gb_pi g c j v) (k0 := 0) hjl (by simp [gb_fv, gb_pa, upd]) (fun i k' hi => by
    match k' with
    | 0 => simp [gb_fv, gb_pa, upd, hi]
    | 1 => rfl
    | 2 => rfl
    | k' + 3 => rfl), gb_set_self hk] at hat
  exact hat
theorem gb_putl {idx ci j c : Nat} {fin : Bool} {t : FieldType} {ks' : List Nat} {v : Int64} (hf : gb_FL M.1.cls idx ci j fin t) (hfin : fin = true → M.1.name = "<init>" ∧ (vwCl[ci]?).map (fun q => q.1) = some M.1.cls) (hs : sh[c]? = some (.inr (ci, ks'))) (hk : ks'[j]? = some 1) (hn : narrow t (.long v) = .long v) (hfit : fits t (.long v) = true) (hdg : decode M.2.1 pc = .ok (.putfield idx, 3)) (k : gb_J Γ M d Q kc ks sh (gb_pj g c j v) (pc + 3) lv st) : gb_J Γ M d Q kc ks sh g pc lv (.long v :: .ref c :: st) := by
  intro p e R s m args below meth c0 mc ms hx H locs cells slots hH h1 h2 ls hl
  have hjl : j < ks'.length := (List.getElem?_eq_some_iff.mp hk).1
  refine gb_put0 hx.1 hx.2.1 hf (fun h => ⟨(hx.2.2.2.2.2.2.1).trans (hfin h).1, (hfin h).2⟩) hx.2.2.2.2.2.2.2.1 hx.2.2.2.2.1 (hH.2.1 c _ hs) hn hfit (by rw [gb_fs_len]; exact hjl) hdg (fun H1 i hz ho hat => ?_)
  refine k p e R s m args below meth c0 mc ms hx H1 _ cells slots (hH.upd (c := c) hs rfl (fun _ _ => rfl) hz ho ?_ (fun a ha => rfl) (fun a ha => by simp [gb_pl, ha]) (fun a ha => rfl) (fun q hq => by rw [List.mem_singleton.mp hq]; show gb_sz Γ ≤ gb_sz Γ + c; omega)) h1 h2 ls hl
  have hat : va_at Γ.2.1 vwCl (gb_sz Γ + c, .inr (ci, (gb_fs Γ g c ks').set j (.long v))) H1 := hat
  rw [gb_fs_set (Γ := Γ) (c := c) (v := .long v) (g' := gb_pj g c j v) (k0 := 1) hjl (by simp [gb_fv, gb_pl, vp_updL]) (fun i k' hi => by
    match k' with
    | 0 => rfl
    | 1 => simp [gb_fv, gb_pl, vp_updL, hi]
    | 2 => rfl
    | k' + 3 => rfl), gb_set_self hk] at hat
  exact hat
/-- a reference into a field: the cell's kind changes -/
theorem gb_putr {idx ci j c r : Nat} {fin : Bool} {t : FieldType} {ks' : List Nat} (hf : gb_FL M.1.cls idx ci j fin t) (hfin : fin = true → M.1.name = "<init>" ∧ (vwCl[ci]?).map (fun q => q.1) = some M.1.cls) (hs : sh[c]? = some (.inr (ci, ks'))) (hj : j < ks'.length) (hn : ∀ a : Nat, narrow t (.ref a) = .ref a) (hfit : ∀ a : Nat, fits t (.ref a) = true) (hdg : decode M.2.1 pc = .ok (.putfield idx, 3)) (k : gb_J Γ M d Q kc ks (sh.set c (.inr (ci, ks'.set j (r + 3)))) g (pc + 3) lv st) : gb_J Γ M d Q kc ks sh g pc lv (.ref r :: .ref c :: st) := by
  intro p e R s m args below meth c0 mc ms hx H locs cells slots hH h1 h2 ls hl
  have hcl : c < sh.length := (List.getElem?_eq_some_iff.mp hs).1
  refine gb_put0 hx.1 hx.2.1 hf (fun h => ⟨(hx.2.2.2.2.2.2.1).trans (hfin h).1, (hfin h).2⟩) hx.2.2.2.2.2.2.2.1 hx.2.2.2.2.1 (hH.2.1 c _ hs) (v := .ref (gb_sz Γ + r)) (hn _) (hfit _) (by rw [gb_fs_len]; exact hj) hdg (fun H1 i hz ho hat => ?_)
  refine k p e R s m args below meth c0 mc ms hx H1 _ cells slots (hH.upd (c := c) (x' := .inr (ci, ks'.set j (r + 3))) (by simp [hcl]) (by simp) (fun a ha => by rw [List.getElem?_set, if_neg (Ne.symm ha)]) hz ho ?_ (fun a ha => rfl) (fun a ha => rfl) (fun a ha => rfl) (fun q hq => by rw [List.mem_singleton.mp hq]; show gb_sz Γ ≤ gb_sz Γ + c; omega)) h1 h2 ls hl
  have hat : va_at Γ.2.1 vwCl (gb_sz Γ + c, .inr (ci, (gb_fs Γ g c ks').set j (.ref (gb_sz Γ + r)))) H1 := hat
  rw [gb_fs_set (Γ := Γ) (c := c) (v := .ref (gb_sz Γ + r)) (g' := g) (k0 := r + 3) hj rfl (fun i k' hi => rfl)] at hat
  exact hat
theorem gb_iald {c n : Nat} {i : Int32} (hs : sh[c]? = some (.inl (0, n))) (hi : vp_in i n) (hdg : decode M.2.1 pc = .ok (.iaload, 1)) (k : gb_J Γ M d Q kc ks sh g (pc + 1) lv (.int (g.1 c i.toNatClampNeg) :: st)) : gb_J Γ M d Q kc ks sh g pc lv (.int i :: .ref c :: st) := by
  intro p e R s m args below meth c0 mc ms hx H locs cells slots hH h1 h2 ls hl
  have hlt : i.toNatClampNeg < n := Nat.not_le.mp fun q => hi (Or.inr q)
  exact W.iald (v := .int (g.1 c i.toNatClampNeg)) hx.1 hx.2.1 (hH.2.1 c _ hs) (((hx.2.2.2.2.2.2.2.1).k.2 0 _ (gb_tys_at Γ (by decide))).1 n (fun j => .int (g.1 c j))) (fun q => by cases q) (by show ¬ (i < 0 ∨ (arrV _ _ _).slots.size ≤ _); rw [arrV_size]; exact hi) (by show (arrV _ _ _).slots[_]? = _; rw [arrV_read _ _ hlt]) rfl rfl hdg (k p e R s m args below meth c0 mc ms hx H locs cells slots hH h1 h2 ls hl)
theorem gb_lald {c n : Nat} {i : Int32} (hs : sh[c]? = some (.inl (1, n))) (hi : vp_in i n) (hdg : decode M.2.1 pc = .ok (.laload, 1)) (k : gb_J Γ M d Q kc ks sh g (pc + 1) lv (.long (g.2.1 c i.toNatClampNeg) :: st)) : gb_J Γ M d Q kc ks sh g pc lv (.int i :: .ref c :: st) := by
  intro p e R s m args below meth c0 mc ms hx H locs cells slots hH h1 h2 ls hl
  have hlt : i.toNatClampNeg < n := Nat.not_le.mp fun q => hi (Or.inr q)
  exact W.lald (v := .long (g.2.1 c i.toNatClampNeg)) hx.1 hx.2.1 (hH.2.1 c _ hs) (((hx.2.2.2.2.2.2.2.1).k.2 1 _ (gb_tys_at Γ (by decide))).1 n (fun j => .long (g.2.1 c j))) (fun q => by cases q) (by show ¬ (i < 0 ∨ (arrV _ _ _).slots.size ≤ _); rw [arrV_size]; exact hi) (by show (arrV _ _ _).slots[_]? = _; rw [arrV_read _ _ hlt]) rfl rfl hdg (k p e R s m args below meth c0 mc ms hx H locs cells slots hH h1 h2 ls hl)
theorem gb_zald {c n : Nat} {i : Int32} (hs : sh[c]? = some (.inl (2, n))) (hi : vp_in i n) (hdg : decode M.2.1 pc = .ok (.baload, 1)) (k : gb_J Γ M d Q kc ks sh g (pc + 1) lv (.int (g.1 c i.toNatClampNeg) :: st)) : gb_J Γ M d Q kc ks sh g pc lv (.int i :: .ref c :: st) := by
  intro p e R s m args below meth c0 mc ms hx H locs cells slots hH h1 h2 ls hl
  have hlt : i.toNatClampNeg < n := Nat.not_le.mp fun q => hi (Or.inr q)
  exact W.zald (v := .int (g.1 c i.toNatClampNeg)) hx.1 hx.2.1 (hH.2.1 c _ hs) (((hx.2.2.2.2.2.2.2.1).k.2 2 _ (gb_tys_at Γ (by decide))).1 n (fun j => .int (g.1 c j))) (fun q => by cases q) (by show ¬ (i < 0 ∨ (arrV _ _ _).slots.size ≤ _); rw [arrV_size]; exact hi) (by show (arrV _ _ _).slots[_]? = _; rw [arrV_read _ _ hlt]) rfl rfl hdg (k p e R s m args below meth c0 mc ms hx H locs cells slots hH h1 h2 ls hl)
theorem gb_aald {c n t : Nat} {i : Int32} (ht : t = 3 ∨ t = 4) (hs : sh[c]? = some (.inl (t, n))) (hi : vp_in i n) (hdg : decode M.2.1 pc = .ok (.aaload, 1)) (k : gb_J Γ M d Q kc ks sh g (pc + 1) lv (va_rf (g.2.2 c i.toNatClampNeg) :: st)) : gb_J Γ M d Q kc ks sh g pc lv (.int i :: .ref c :: st) := by
  intro p e R s m args below meth c0 mc ms hx H locs cells slots hH h1 h2 ls hl
  have hlt : i.toNatClampNeg < n := Nat.not_le.mp fun q => hi (Or.inr q)
  have hk := k p e R s m args below meth c0 mc ms hx H locs cells slots hH h1 h2 ls hl
  have hat := hH.2.1 c _ hs
  have hcv : gb_cv Γ (va_rf (g.2.2 c i.toNatClampNeg)) = va_rf ((g.2.2 c i.toNatClampNeg).map (fun a => gb_sz Γ + a)) := by cases g.2.2 c i.toNatClampNeg <;> rfl
  rw [List.map_cons, hcv] at hk
  rcases ht with rfl | rfl
  · exact W.aald (v := va_rf ((g.2.2 c i.toNatClampNeg).map (fun a => gb_sz Γ + a))) (ty := gb_ty 3) hx.1 hx.2.1 hat (((hx.2.2.2.2.2.2.2.1).k.2 3 _ (gb_tys_at Γ (by decide))).1 n (fun j => va_rf ((g.2.2 c j).map (fun a => gb_sz Γ + a)))) rfl (fun q => by cases q) (by show ¬ (i < 0 ∨ (arrV _ _ _).slots.size ≤ _); rw [arrV_size]; exact hi) (by show (arrV _ _ _).slots[_]? = _; rw [arrV_read _ _ hlt]) rfl rfl hdg hk
  · exact W.aald (v := va_rf ((g.2.2 c i.toNatClampNeg).map (fun a => gb_sz Γ + a))) (ty := gb_ty 4) hx.1 hx.2.1 hat (((hx.2.2.2.2.2.2.2.1).k.2 4 _ (gb_tys_at Γ (by decide))).1 n (fun j => va_rf ((g.2.2 c j).map (fun a => gb_sz Γ + a)))) rfl (fun q => by cases q) (by show ¬ (i < 0 ∨ (arrV _ _ _).slots.size ≤ _); rw [arrV_size]; exact hi) (by show (arrV _ _ _).slots[_]? = _; rw [arrV_read _ _ hlt]) rfl rfl hdg hk
theorem gb_alen {c n t : Nat} (v : Int32) (ht : t < 5) (hs : sh[c]? = some (.inl (t, n))) (hv : Int32.ofNat n = v) (hdg : decode M.2.1 pc = .ok (.arraylength, 1)) (k : gb_J Γ M d Q kc ks sh g (pc + 1) lv (.int v :: st)) : gb_J Γ M d Q kc ks sh g pc lv (.ref c :: st) := by
  intro p e R s m args below meth c0 mc ms hx H locs cells slots hH h1 h2 ls hl
  have hP : va_P Γ.2.1 vwCl [(gb_sz Γ + c, gb_en Γ g c (.inl (t, n)))] H := fun i q hq => by
    have : i < 1 := (List.getElem?_eq_some_iff.mp hq).1
    rw [show i = 0 by omega] at hq
    cases hq
    exact hH.2.1 c _ hs
  exact va_alen hx.1 hx.2.1 (hx.2.2.2.2.2.2.2.1).k hP 0 t rfl (gb_tys_at Γ ht) hv hdg (k p e R s m args below meth c0 mc ms hx H locs cells slots hH h1 h2 ls hl)
theorem gb_iast {c n : Nat} {i x : Int32} (hs : sh[c]? = some (.inl (0, n))) (hi : vp_in i n) (hdg : decode M.2.1 pc = .ok (.iastore, 1)) (k : gb_J Γ M d Q kc ks sh (gb_pi g c i.toNatClampNeg x) (pc + 1) lv st) : gb_J Γ M d Q kc ks sh g pc lv (.int x :: .int i :: .ref c :: st) := by
  intro p e R s m args below meth c0 mc ms hx H locs cells slots hH h1 h2 ls hl
  refine W.iast hx.1 hx.2.1 (hH.2.1 c _ hs) (((hx.2.2.2.2.2.2.2.1).k.2 0 _ (gb_tys_at Γ (by decide))).1 n (fun j => .int (g.1 c j))) (fun q => by cases q) (by show ¬ (i < 0 ∨ (arrV _ _ _).slots.size ≤ _); rw [arrV_size]; exact hi) rfl rfl hdg fun H1 e1 z oq => ?_
  refine k p e R s m args below meth c0 mc ms hx H1 _ cells slots (hH.upd (c := c) hs rfl (fun _ _ => rfl) z oq ?_ (fun a ha => by simp [gb_pa, ha]) (fun a ha => rfl) (fun a ha => rfl) (fun q hq => by rw [List.mem_singleton.mp hq]; show gb_sz Γ ≤ gb_sz Γ + c; omega)) h1 h2 ls hl
  show H1[gb_sz Γ + c]? = some (arrV _ n fun j => .int ((gb_pi g c i.toNatClampNeg x).1 c j))
  rw [e1]
  show some ((arrV _ n fun j => .int (g.1 c j)).setSlot _ _) = _
  rw [arrV_store]
  congr 2
  funext q
  by_cases hq : q = i.toNatClampNeg
  · subst hq
    simp [updV, upd, gb_pa]
  · simp [updV, upd, gb_pa, hq]
theorem gb_last {c n : Nat} {i : Int32} {x : Int64} (hs : sh[c]? = some (.inl (1, n))) (hi : vp_in i n) (hdg : decode M.2.1 pc = .ok (.lastore, 1)) (k : gb_J Γ M d Q kc ks sh (gb_pj g c i.toNatClampNeg x) (pc + 1) lv st) : gb_J Γ M d Q kc ks sh g pc lv (.long x :: .int i :: .ref c :: st) := by
  intro p e R s m args below meth c0 mc ms hx H locs cells slots hH h1 h2 ls hl
  refine W.last hx.1 hx.2.1 (hH.2.1 c _ hs) (((hx.2.2.2.2.2.2.2.1).k.2 1 _ (gb_tys_at Γ (by decide))).1 n (fun j => .long (g.2.1 c j))) (fun q => by cases q) (by show ¬ (i < 0 ∨ (arrV _ _ _).slots.size ≤ _); rw [arrV_size]; exact hi) rfl rfl hdg fun H1 e1 z oq => ?_
  refine k p e R s m args below meth c0 mc ms hx H1 _ cells slots (hH.upd (c := c) hs rfl (fun _ _ => rfl) z oq ?_ (fun a ha => rfl) (fun a ha => by simp [gb_pl, ha]) (fun a ha => rfl) (fun q hq => by rw [List.mem_singleton.mp hq]; show gb_sz Γ ≤ gb_sz Γ + c; omega)) h1 h2 ls hl
  show H1[gb_sz Γ + c]? = some (arrV _ n fun j => .long ((gb_pj g c i.toNatClampNeg x).2.1 c j))
  rw [e1]
  show some ((arrV _ n fun j => .long (g.2.1 c j)).setSlot _ _) = _
  rw [arrV_store]
  congr 2
  funext q
  by_cases hq : q = i.toNatClampNeg
  · subst hq
    simp [updV, vp_updL, gb_pl]
  · simp [updV, vp_updL, gb_pl, hq]
theorem gb_zast {c n : Nat} {i x : Int32} (hs : sh[c]? = some (.inl (2, n))) (hi : vp_in i n) (hx0 : narrow .boolean (.int x) = .int x) (hdg : decode M.2.1 pc = .ok (.bastore, 1)) (k : gb_J Γ M d Q kc ks sh (gb_pi g c i.toNatClampNeg x) (pc + 1) lv st) : gb_J Γ M d Q kc ks sh g pc lv (.int x :: .int i :: .ref c :: st) := by
  intro p e R s m args below meth c0 mc ms hx H locs cells slots hH h1 h2 ls hl
  refine W.zast hx.1 hx.2.1 (hH.2.1 c _ hs) (((hx.2.2.2.2.2.2.2.1).k.2 2 _ (gb_tys_at Γ (by decide))).1 n (fun j => .int (g.1 c j))) (fun q => by cases q) (by show ¬ (i < 0 ∨ (arrV _ _ _).slots.size ≤ _); rw [arrV_size]; exact hi) rfl rfl hdg fun H1 e1 z oq => ?_
  refine k p e R s m args below meth c0 mc ms hx H1 _ cells slots (hH.upd (c := c) hs rfl (fun _ _ => rfl) z oq ?_ (fun a ha => by simp [gb_pa, ha]) (fun a ha => rfl) (fun a ha => rfl) (fun q hq => by rw [List.mem_singleton.mp hq]; show gb_sz Γ ≤ gb_sz Γ + c; omega)) h1 h2 ls hl
  show H1[gb_sz Γ + c]? = some (arrV _ n fun j => .int ((gb_pi g c i.toNatClampNeg x).1 c j))
  rw [e1, hx0]
  show some ((arrV _ n fun j => .int (g.1 c j)).setSlot _ _) = _
  rw [arrV_store]
  congr 2
  funext q
  by_cases hq : q = i.toNatClampNeg
  · subst hq
    simp [updV, upd, gb_pa]
  · simp [updV, upd, gb_pa, hq]
end GB2
