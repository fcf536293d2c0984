/-! ===== the judgement: a method's code over an abstract heap; cell c of the abstract heap lies at the address sz + c ===== -/
/-- what a cell is: an array (kind of its elements, length) or an object (class, kinds of its fields: 0 an int, 1 a long, 2 null, k + 3 the cell k) -/
abbrev gb_Sh : Type := (Nat × Nat) ⊕ (Nat × List Nat)
/-- what the cells hold: ints, longs, references, by cell and place -/
abbrev gb_G : Type := (Nat → Nat → Int32) × (Nat → Nat → Int64) × (Nat → Nat → Option Nat)
/-- launch; classes; array classes; the law's start; addresses of what is only read -/
abbrev gb_X : Type := Launch × va_G × (Nat → ClassId) × State × (Nat → Nat)
/-- a method: its name, bytes, locals, what it answers -/
abbrev gb_M : Type := MethodName × ByteArray × Nat × Option FieldType
abbrev gb_P : Type := List gb_Sh → gb_G → Option Value → Prop
def gb_sz (Γ : gb_X) : Nat := Γ.2.2.2.1.heap.size
def gb_cv (Γ : gb_X) (v : Value) : Value := match v with
  | .ref k => .ref (gb_sz Γ + k)
  | .float x => .float x
  | .int x => .int x
  | .long x => .long x
  | .double x => .double x
  | .null => .null
  | .retAddr j => .ref (Γ.2.2.2.2 j)
theorem gb_cv_cat (Γ : gb_X) (v : Value) : (gb_cv Γ v).category = v.category := by cases v <;> rfl
def gb_fv (Γ : gb_X) (g : gb_G) (c j k : Nat) : Value := match k with
  | 0 => .int (g.1 c j)
  | 1 => .long (g.2.1 c j)
  | 2 => .null
  | k + 3 => .ref (gb_sz Γ + k)
def gb_fs (Γ : gb_X) (g : gb_G) (c : Nat) (ks : List Nat) : List Value := ks.mapIdx (gb_fv Γ g c)
def gb_ct (Γ : gb_X) (g : gb_G) (c t : Nat) : (Nat → Int32) ⊕ (Nat → Int64) ⊕ (Nat → UInt32) ⊕ (Nat → UInt64) ⊕ (Nat → Option Nat) := match t with
  | 0 => .inl (g.1 c)
  | 1 => .inr (.inl (g.2.1 c))
  | 2 => .inl (g.1 c)
  | _ => .inr (.inr (.inr (.inr (fun k => (g.2.2 c k).map (fun a => gb_sz Γ + a)))))
def gb_en (Γ : gb_X) (g : gb_G) (c : Nat) (x : gb_Sh) : va_E := match x with
  | .inl q => .inl (Γ.2.2.1 q.1, q.2, gb_ct Γ g c q.1)
  | .inr q => .inr (q.1, gb_fs Γ g c q.2)
def gb_ty (t : Nat) : FieldType := match t with
  | 0 => .int
  | 1 => .long
  | 2 => .boolean
  | 3 => .object "GladBasket$Program"
  | _ => .object "GladBasket$Basket"
def gb_tys (Γ : gb_X) : List (ClassId × FieldType) := (List.range 5).map fun t => (Γ.2.2.1 t, gb_ty t)
/-- the String constants: class, entry, text; their lengths and bytes -/
def gb_sr : List (String × Nat × String) := [("GladBasket$Reader", 55, "lack find weigh pass"), ("GladBasket$Reader", 57, "moves counts glads bars"), ("GladBasket$Reader", 76, "by"), ("GladBasket$Reader", 82, "times"), ("GladBasket$Reader", 87, "if"), ("GladBasket$Reader", 112, "or"), ("GladBasket$Reader", 124, "and"), ("GladBasket$Reader", 126, "not"), ("GladBasket$Reader", 128, "<>="), ("GladBasket$Reader", 136, "+-"), ("GladBasket$Reader", 141, "*/%"), ("GladBasket$Reader", 152, "month done latest figure lacking now weight"), ("GladBasket$Reader", 154, "good base now weight glad lacks place month mood")]
def gb_sl : List Nat := [20, 23, 2, 5, 2, 2, 3, 3, 3, 2, 3, 43, 48]
def gb_sb : List (List Int32) := [[108, 97, 99, 107, 32, 102, 105, 110, 100, 32, 119, 101, 105, 103, 104, 32, 112, 97, 115, 115], [109, 111, 118, 101, 115, 32, 99, 111, 117, 110, 116, 115, 32, 103, 108, 97, 100, 115, 32, 98, 97, 114, 115], [98, 121], [116, 105, 109, 101, 115], [105, 102], [111, 114], [97, 110, 100], [110, 111, 116], [60, 62, 61], [43, 45], [42, 47, 37], [109, 111, 110, 116, 104, 32, 100, 111, 110, 101, 32, 108, 97, 116, 101, 115, 116, 32, 102, 105, 103, 117, 114, 101, 32, 108, 97, 99, 107, 105, 110, 103, 32, 110, 111, 119, 32, 119, 101, 105, 103, 104, 116], [103, 111, 111, 100, 32, 98, 97, 115, 101, 32, 110, 111, 119, 32, 119, 101, 105, 103, 104, 116, 32, 103, 108, 97, 100, 32, 108, 97, 99, 107, 115, 32, 112, 108, 97, 99, 101, 32, 109, 111, 110, 116, 104, 32, 109, 111, 111, 100]]
def gb_top (j : Nat) : Int32 := match j with
  | 0 => 999
  | 1 => 10
  | _ => 9
/-- what is only read, at the law's start -/
def gb_RO (Γ : gb_X) : Prop := va_Z "GladBasket" "TOP_TERM" "[I" (.ref (Γ.2.2.2.2 1)) (fun q => gb_sz Γ ≤ q) Γ.2.2.2.1 Γ.2.2.2.1.heap ∧ va_T .int (Γ.2.2.2.2 1) 3 (fun j => .int (gb_top j)) (fun q => gb_sz Γ ≤ q) Γ.2.2.2.1 Γ.2.2.2.1.heap ∧ va_Z "java/lang/String" "COMPACT_STRINGS" "Z" (.int 1) (fun q => gb_sz Γ ≤ q) Γ.2.2.2.1 Γ.2.2.2.1.heap ∧ (va_Z "jdk/internal/util/Preconditions" "SIOOBE_FORMATTER" "Ljava/util/function/BiFunction;" .null (fun q => gb_sz Γ ≤ q) Γ.2.2.2.1 Γ.2.2.2.1.heap ∨ va_Z "jdk/internal/util/Preconditions" "SIOOBE_FORMATTER" "Ljava/util/function/BiFunction;" (.ref (Γ.2.2.2.2 40)) (fun q => gb_sz Γ ≤ q) Γ.2.2.2.1 Γ.2.2.2.1.heap) ∧ (∀ (i : Nat) (q : String × Nat × String), gb_sr[i]? = some q → vk_R q.1 q.2.1 q.2.2 (Γ.2.2.2.2 (2 + i)) Γ.2.2.2.1) ∧ vk_S 13 gb_sl gb_sb (fun i => Γ.2.2.2.2 (2 + i)) (fun i => Γ.2.2.2.2 (20 + i)) (fun q => gb_sz Γ ≤ q) Γ.2.2.2.1 Γ.2.2.2.1.heap
/-- what holds at the law's start -/
def gb_V (Γ : gb_X) : Prop := (∀ w ∈ lw_tbl, w.before #[.ref (Γ.2.2.2.2 0)] Γ.2.2.2.1 = true) ∧ gb_RO Γ
def gb_K (Γ : gb_X) (U : State) : Prop := gb_V Γ ∧ va_K Γ.2.1 vwCl (gb_tys Γ) Γ.2.2.2.1 ∧ Γ.2.2.2.1.WarmedH U.vm
def gb_H (Γ : gb_X) (sh : List gb_Sh) (g : gb_G) (H : Heap) (locs : List Loc) : Prop :=
  H.size = gb_sz Γ + sh.length ∧ (∀ (c : Nat) (x : gb_Sh), sh[c]? = some x → va_at Γ.2.1 vwCl (gb_sz Γ + c, gb_en Γ g c x) H) ∧ (∀ q : Nat, q < gb_sz Γ → H[q]? = Γ.2.2.2.1.heap[q]?) ∧ ∀ q ∈ locs, gb_sz Γ ≤ q.base
def gb_Q (Γ : gb_X) (Q : gb_P) : Array Value → State → Outcome → State → Prop := fun _ _ o t =>
  ∃ (sh : List gb_Sh) (g : gb_G) (v : Option Value), o = .returned (v.map (gb_cv Γ)) ∧ Q sh g v ∧ gb_H Γ sh g t.heap []
def gb_ws (M : gb_M) : List Cond := [Cond.code M.1 M.2.1 M.2.2.1 M.2.2.2]
def gb_rm (d kc ks : Nat) : Room := { frames := d, cells := kc, slots := ks, locals := 64 * d }
/-- a method's contract: from the heap (sh, g) with the arguments As, Q of what comes -/
def gb_C (Γ : gb_X) (M : gb_M) (d kc ks : Nat) (sh : List gb_Sh) (g : gb_G) (As : List Value) (Q : gb_P) : Prop :=
  Met Γ.1 M.1 (gb_ws M) (gb_rm d kc ks) (fun a U => a = (As.map (gb_cv Γ)).toArray ∧ gb_H Γ sh g U.heap [] ∧ gb_K Γ U) (gb_Q Γ Q) kc ks (fun q => gb_sz Γ ≤ q)
def gb_Cx (Γ : gb_X) (M : gb_M) (d : Nat) (p : Program) (R : Room) (s : State) (m : MethodId) (meth : Method) (c : Code) (mc ms : Nat) : Prop :=
  p.tables.exec = Jvm.exec ∧ c.code = M.2.1 ∧ meth.sig.returnType = M.2.2.2 ∧ c.maxLocals = M.2.2.1 ∧ s.vm.findClass M.1.cls = some m.cls ∧ meth.locks = false ∧ meth.name = M.1.name ∧ gb_K Γ s ∧ d ≤ R.frames ∧ 64 * d ≤ R.locals ∧ mc ≤ R.cells ∧ ms ≤ R.slots
def gb_lv (Γ : gb_X) (lv : List (Nat × Value)) : List (Nat × Value) := lv.map fun q => (q.1, gb_cv Γ q.2)
/-- at pc of M, with locals lv and stack st, over the heap (sh, g), with room for kc cells of ks slots and d frames: it comes to Q -/
def gb_J (Γ : gb_X) (M : gb_M) (d : Nat) (Q : gb_P) (kc ks : Nat) (sh : List gb_Sh) (g : gb_G) (pc : Nat) (lv : List (Nat × Value)) (st : List Value) : Prop :=
  ∀ (p : Program) (e : Env) (R : Room) (s : State) (m : MethodId) (args : Array Value) (below : List Frame) (meth : Method) (c : Code) (mc ms : Nat), gb_Cx Γ M d p R s m meth c mc ms →
    ∀ (H : Heap) (locs : List Loc) (cells slots : Nat), gb_H Γ sh g H locs → cells + kc ≤ mc → slots + ks ≤ ms → ∀ ls : Array Slot, lv_has ls M.2.2.1 (gb_lv Γ lv) →
      W p Γ.1 e R s m args below meth c H locs cells slots (MQ below (gb_Q Γ Q) args s mc ms (fun q => gb_sz Γ ≤ q)) (F0 m pc ls (st.map (gb_cv Γ)))
theorem gb_lv_args (Γ : gb_X) (As : List Value) : ∀ i, lv_args i (As.map (gb_cv Γ)) = gb_lv Γ (lv_args i As) := by
  induction As with
  | nil => intro i; rfl
  | cons v vs ih =>
    intro i
    show (i, gb_cv Γ v) :: lv_args _ (vs.map (gb_cv Γ)) = (i, gb_cv Γ v) :: gb_lv Γ (lv_args _ vs)
    rw [ih, gb_cv_cat]
theorem gb_sl_len (Γ : gb_X) (As : List Value) : (lg_sl (As.map (gb_cv Γ))).length = (lg_sl As).length := by
  induction As with
  | nil => rfl
  | cons v vs ih =>
    simp only [lg_sl, List.map_cons, List.flatMap_cons, List.length_append, gb_cv_cat] at ih ⊢
    rw [ih]
    split <;> rfl
theorem gb_H.nil {Γ : gb_X} {sh : List gb_Sh} {g : gb_G} {H : Heap} {locs : List Loc} (h : gb_H Γ sh g H locs) : gb_H Γ sh g H [] := ⟨h.1, h.2.1, h.2.2.1, fun q hq => by cases hq⟩
theorem gb_K.k {Γ : gb_X} {U : State} (h : gb_K Γ U) : va_K Γ.2.1 vwCl (gb_tys Γ) U := va_K.moved h.2.2.alike h.2.1
theorem gb_K.warm {Γ : gb_X} {s U : State} (h : gb_K Γ s) (hW : s.WarmedH U.vm) : gb_K Γ U := ⟨h.1, h.2.1, State.WarmedH.trans h.2.2 hW⟩
theorem gb_K.word {Γ : gb_X} {U : State} (h : gb_K Γ U) {w : Cond} (hw : w ∈ lw_tbl) (hg : goodWord w = true) (a : Array Value) : w.before a U = true := word_at h.2.2 (good_of_word hg) (h.1.1 w hw)
set_option maxHeartbeats 1000000 in
theorem gb_C.of {Γ : gb_X} {M : gb_M} {d kc ks : Nat} {sh : List gb_Sh} {g : gb_G} {As : List Value} {Q : gb_P} (hy : plainName M.1.cls = true) (hn : (lg_sl As).length ≤ M.2.2.1)
    (h : gb_J Γ M d Q kc ks sh g 0 (lv_args 0 As) []) : gb_C Γ M d kc ks sh g As Q := by
  obtain ⟨y, cc, maxL, ret⟩ := M
  refine Met.ofW (cc := cc) (maxL := maxL) (ret := ret) hy rfl ?_
  intro p e s m args below meth c s₁ B hml hv
  obtain ⟨rfl, hH, hK⟩ := hv
  have hx : gb_Cx Γ (y, cc, maxL, ret) d p (gb_rm d kc ks) s m meth c kc ks :=
    ⟨B.exec, B.bytes, B.returns, hml, findClass_of_methodNamed B.named, B.notSynchronized, (name_of_methodNamed B.named B.method).1, hK, Nat.le_refl _, Nat.le_refl _, Nat.le_refl _, Nat.le_refl _⟩
  have hl := lv_entry (As.map (gb_cv Γ)) (n := maxL) (by rw [gb_sl_len]; exact hn)
  rw [lg_entry_eq]
  rw [gb_lv_args] at hl
  exact h p e (gb_rm d kc ks) s m _ below meth c kc ks hx s.heap [] 0 0 hH (by simp) (by simp) _ hl
theorem gb_lk {Γ : gb_X} {lv : List (Nat × Value)} {ls : Array Slot} {n i : Nat} {v : Value} (hl : lv_has ls n (gb_lv Γ lv)) (h : lv.lookup i = some v) : ls[i]? = some (.val (gb_cv Γ v)) := by
  have hm : (i, v) ∈ lv := by
    induction lv with
    | nil => cases h
    | cons q t ih =>
      obtain ⟨j, u⟩ := q
      rw [List.lookup_cons] at h
      by_cases hj : i == j
      · rw [hj] at h
        cases h
        rw [eq_of_beq hj]
        exact List.mem_cons_self
      · simp only [hj] at h
        exact List.mem_cons_of_mem _ (ih ⟨hl.1, hl.2.1, fun q hq => hl.2.2 q (List.mem_cons_of_mem _ hq)⟩ h)
  exact hl.2.2 (i, gb_cv Γ v) (List.mem_map.mpr ⟨(i, v), hm, rfl⟩)
theorem gb_lv_filter (Γ : gb_X) (lv : List (Nat × Value)) (f : Nat → Nat → Bool) : (gb_lv Γ lv).filter (fun q => f q.1 q.2.category) = gb_lv Γ (lv.filter (fun q => f q.1 q.2.category)) := by
  unfold gb_lv
  rw [List.filter_map]
  congr 1
  apply List.filter_congr
  intro q _
  simp [Function.comp, gb_cv_cat]
section GB
variable {Γ : gb_X} {M : gb_M} {d : Nat} {Q : gb_P} {kc ks : Nat} {sh : List gb_Sh} {g : gb_G} {pc : Nat} {lv : List (Nat × Value)} {st : List Value}

theorem gb_iadd {x y : Int32} (hdg : decode M.2.1 pc = .ok (.iadd, 1)) (k : gb_J Γ M d Q kc ks sh g (pc + 1) lv (.int (x + y) :: st)) : gb_J Γ M d Q kc ks sh g (pc) lv (.int y :: .int x :: st) := fun p e R s m args below meth c mc ms hx H locs cells slots hH h1 h2 ls hl => lv_iadd hx.1 hx.2.1 hdg (k p e R s m args below meth c mc ms hx H locs cells slots hH h1 h2 ls hl)
theorem gb_isub {x y : Int32} (hdg : decode M.2.1 pc = .ok (.isub, 1)) (k : gb_J Γ M d Q kc ks sh g (pc + 1) lv (.int (x - y) :: st)) : gb_J Γ M d Q kc ks sh g (pc) lv (.int y :: .int x :: st) := fun p e R s m args below meth c mc ms hx H locs cells slots hH h1 h2 ls hl => lv_isub hx.1 hx.2.1 hdg (k p e R s m args below meth c mc ms hx H locs cells slots hH h1 h2 ls hl)
theorem gb_imul {x y : Int32} (hdg : decode M.2.1 pc = .ok (.imul, 1)) (k : gb_J Γ M d Q kc ks sh g (pc + 1) lv (.int (x * y) :: st)) : gb_J Γ M d Q kc ks sh g (pc) lv (.int y :: .int x :: st) := fun p e R s m args below meth c mc ms hx H locs cells slots hH h1 h2 ls hl => lv_imul hx.1 hx.2.1 hdg (k p e R s m args below meth c mc ms hx H locs cells slots hH h1 h2 ls hl)
theorem gb_iand {x y : Int32} (hdg : decode M.2.1 pc = .ok (.iand, 1)) (k : gb_J Γ M d Q kc ks sh g (pc + 1) lv (.int (x &&& y) :: st)) : gb_J Γ M d Q kc ks sh g (pc) lv (.int y :: .int x :: st) := fun p e R s m args below meth c mc ms hx H locs cells slots hH h1 h2 ls hl => lv_iand hx.1 hx.2.1 hdg (k p e R s m args below meth c mc ms hx H locs cells slots hH h1 h2 ls hl)
theorem gb_ior {x y : Int32} (hdg : decode M.2.1 pc = .ok (.ior, 1)) (k : gb_J Γ M d Q kc ks sh g (pc + 1) lv (.int (x ||| y) :: st)) : gb_J Γ M d Q kc ks sh g (pc) lv (.int y :: .int x :: st) := fun p e R s m args below meth c mc ms hx H locs cells slots hH h1 h2 ls hl => lv_ior hx.1 hx.2.1 hdg (k p e R s m args below meth c mc ms hx H locs cells slots hH h1 h2 ls hl)
theorem gb_ixor {x y : Int32} (hdg : decode M.2.1 pc = .ok (.ixor, 1)) (k : gb_J Γ M d Q kc ks sh g (pc + 1) lv (.int (x ^^^ y) :: st)) : gb_J Γ M d Q kc ks sh g (pc) lv (.int y :: .int x :: st) := fun p e R s m args below meth c mc ms hx H locs cells slots hH h1 h2 ls hl => lv_ixor hx.1 hx.2.1 hdg (k p e R s m args below meth c mc ms hx H locs cells slots hH h1 h2 ls hl)
theorem gb_ishl {x y : Int32} (hdg : decode M.2.1 pc = .ok (.ishl, 1)) (k : gb_J Γ M d Q kc ks sh g (pc + 1) lv (.int (x <<< (y &&& 31)) :: st)) : gb_J Γ M d Q kc ks sh g (pc) lv (.int y :: .int x :: st) := fun p e R s m args below meth c mc ms hx H locs cells slots hH h1 h2 ls hl => lv_ishl hx.1 hx.2.1 hdg (k p e R s m args below meth c mc ms hx H locs cells slots hH h1 h2 ls hl)
theorem gb_ishr {x y : Int32} (hdg : decode M.2.1 pc = .ok (.ishr, 1)) (k : gb_J Γ M d Q kc ks sh g (pc + 1) lv (.int (x >>> (y &&& 31)) :: st)) : gb_J Γ M d Q kc ks sh g (pc) lv (.int y :: .int x :: st) := fun p e R s m args below meth c mc ms hx H locs cells slots hH h1 h2 ls hl => lv_ishr hx.1 hx.2.1 hdg (k p e R s m args below meth c mc ms hx H locs cells slots hH h1 h2 ls hl)
theorem gb_iushr {x y : Int32} (hdg : decode M.2.1 pc = .ok (.iushr, 1)) (k : gb_J Γ M d Q kc ks sh g (pc + 1) lv (.int ((x.toUInt32 >>> (y.toUInt32 &&& Int32.toUInt32 31)).toInt32) :: st)) : gb_J Γ M d Q kc ks sh g (pc) lv (.int y :: .int x :: st) := fun p e R s m args below meth c mc ms hx H locs cells slots hH h1 h2 ls hl => lv_iushr hx.1 hx.2.1 hdg rfl (k p e R s m args below meth c mc ms hx H locs cells slots hH h1 h2 ls hl)
theorem gb_idiv {x y : Int32} (hdg : decode M.2.1 pc = .ok (.idiv, 1)) (hne : ¬ y = 0) (k : gb_J Γ M d Q kc ks sh g (pc + 1) lv (.int (x / y) :: st)) : gb_J Γ M d Q kc ks sh g (pc) lv (.int y :: .int x :: st) := fun p e R s m args below meth c mc ms hx H locs cells slots hH h1 h2 ls hl => lv_idiv hx.1 hx.2.1 hdg hne (k p e R s m args below meth c mc ms hx H locs cells slots hH h1 h2 ls hl)
theorem gb_irem {x y : Int32} (hdg : decode M.2.1 pc = .ok (.irem, 1)) (hne : ¬ y = 0) (k : gb_J Γ M d Q kc ks sh g (pc + 1) lv (.int (x - x / y * y) :: st)) : gb_J Γ M d Q kc ks sh g (pc) lv (.int y :: .int x :: st) := fun p e R s m args below meth c mc ms hx H locs cells slots hH h1 h2 ls hl => lv_irem hx.1 hx.2.1 hdg hne (k p e R s m args below meth c mc ms hx H locs cells slots hH h1 h2 ls hl)
theorem gb_ladd {x y : Int64} (hdg : decode M.2.1 pc = .ok (.ladd, 1)) (k : gb_J Γ M d Q kc ks sh g (pc + 1) lv (.long (x + y) :: st)) : gb_J Γ M d Q kc ks sh g (pc) lv (.long y :: .long x :: st) := fun p e R s m args below meth c mc ms hx H locs cells slots hH h1 h2 ls hl => lv_ladd hx.1 hx.2.1 hdg (k p e R s m args below meth c mc ms hx H locs cells slots hH h1 h2 ls hl)
theorem gb_lsub {x y : Int64} (hdg : decode M.2.1 pc = .ok (.lsub, 1)) (k : gb_J Γ M d Q kc ks sh g (pc + 1) lv (.long (x - y) :: st)) : gb_J Γ M d Q kc ks sh g (pc) lv (.long y :: .long x :: st) := fun p e R s m args below meth c mc ms hx H locs cells slots hH h1 h2 ls hl => lv_lsub hx.1 hx.2.1 hdg (k p e R s m args below meth c mc ms hx H locs cells slots hH h1 h2 ls hl)
theorem gb_lmul {x y : Int64} (hdg : decode M.2.1 pc = .ok (.lmul, 1)) (k : gb_J Γ M d Q kc ks sh g (pc + 1) lv (.long (x * y) :: st)) : gb_J Γ M d Q kc ks sh g (pc) lv (.long y :: .long x :: st) := fun p e R s m args below meth c mc ms hx H locs cells slots hH h1 h2 ls hl => lv_lmul hx.1 hx.2.1 hdg (k p e R s m args below meth c mc ms hx H locs cells slots hH h1 h2 ls hl)
theorem gb_ldiv {x y : Int64} (hdg : decode M.2.1 pc = .ok (.ldiv, 1)) (hne : ¬ y = 0) (k : gb_J Γ M d Q kc ks sh g (pc + 1) lv (.long (x / y) :: st)) : gb_J Γ M d Q kc ks sh g (pc) lv (.long y :: .long x :: st) := fun p e R s m args below meth c mc ms hx H locs cells slots hH h1 h2 ls hl => lv_ldiv hx.1 hx.2.1 hdg hne (k p e R s m args below meth c mc ms hx H locs cells slots hH h1 h2 ls hl)
theorem gb_lrem {x y : Int64} (hdg : decode M.2.1 pc = .ok (.lrem, 1)) (hne : ¬ y = 0) (k : gb_J Γ M d Q kc ks sh g (pc + 1) lv (.long (x - x / y * y) :: st)) : gb_J Γ M d Q kc ks sh g (pc) lv (.long y :: .long x :: st) := fun p e R s m args below meth c mc ms hx H locs cells slots hH h1 h2 ls hl => lv_lrem hx.1 hx.2.1 hdg hne (k p e R s m args below meth c mc ms hx H locs cells slots hH h1 h2 ls hl)
theorem gb_ineg {x : Int32} (hdg : decode M.2.1 pc = .ok (.ineg, 1)) (k : gb_J Γ M d Q kc ks sh g (pc + 1) lv (.int (-x) :: st)) : gb_J Γ M d Q kc ks sh g (pc) lv (.int x :: st) := fun p e R s m args below meth c mc ms hx H locs cells slots hH h1 h2 ls hl => lv_ineg hx.1 hx.2.1 hdg (k p e R s m args below meth c mc ms hx H locs cells slots hH h1 h2 ls hl)
theorem gb_lneg {x : Int64} (hdg : decode M.2.1 pc = .ok (.lneg, 1)) (k : gb_J Γ M d Q kc ks sh g (pc + 1) lv (.long (-x) :: st)) : gb_J Γ M d Q kc ks sh g (pc) lv (.long x :: st) := fun p e R s m args below meth c mc ms hx H locs cells slots hH h1 h2 ls hl => lv_lneg hx.1 hx.2.1 hdg (k p e R s m args below meth c mc ms hx H locs cells slots hH h1 h2 ls hl)
theorem gb_i2l {x : Int32} (hdg : decode M.2.1 pc = .ok (.i2l, 1)) (k : gb_J Γ M d Q kc ks sh g (pc + 1) lv (.long x.toInt64 :: st)) : gb_J Γ M d Q kc ks sh g (pc) lv (.int x :: st) := fun p e R s m args below meth c mc ms hx H locs cells slots hH h1 h2 ls hl => lv_i2l hx.1 hx.2.1 hdg rfl (k p e R s m args below meth c mc ms hx H locs cells slots hH h1 h2 ls hl)
theorem gb_l2i {x : Int64} (hdg : decode M.2.1 pc = .ok (.l2i, 1)) (k : gb_J Γ M d Q kc ks sh g (pc + 1) lv (.int x.toInt32 :: st)) : gb_J Γ M d Q kc ks sh g (pc) lv (.long x :: st) := fun p e R s m args below meth c mc ms hx H locs cells slots hH h1 h2 ls hl => lv_l2i hx.1 hx.2.1 hdg rfl (k p e R s m args below meth c mc ms hx H locs cells slots hH h1 h2 ls hl)
theorem gb_i2c {x : Int32} (hdg : decode M.2.1 pc = .ok (.i2c, 1)) (k : gb_J Γ M d Q kc ks sh g (pc + 1) lv (.int (x.toUInt32 % 65536).toInt32 :: st)) : gb_J Γ M d Q kc ks sh g (pc) lv (.int x :: st) := fun p e R s m args below meth c mc ms hx H locs cells slots hH h1 h2 ls hl => lv_i2c hx.1 hx.2.1 hdg rfl (k p e R s m args below meth c mc ms hx H locs cells slots hH h1 h2 ls hl)
theorem gb_i2b {x : Int32} (hdg : decode M.2.1 pc = .ok (.i2b, 1)) (k : gb_J Γ M d Q kc ks sh g (pc + 1) lv (.int x.toInt8.toInt32 :: st)) : gb_J Γ M d Q kc ks sh g (pc) lv (.int x :: st) := fun p e R s m args below meth c mc ms hx H locs cells slots hH h1 h2 ls hl => lv_i2b hx.1 hx.2.1 hdg rfl (k p e R s m args below meth c mc ms hx H locs cells slots hH h1 h2 ls hl)
theorem gb_lcmp {x y : Int64} (hdg : decode M.2.1 pc = .ok (.lcmp, 1)) (k : gb_J Γ M d Q kc ks sh g (pc + 1) lv (.int (lg_cmp x y) :: st)) : gb_J Γ M d Q kc ks sh g (pc) lv (.long y :: .long x :: st) := fun p e R s m args below meth c mc ms hx H locs cells slots hH h1 h2 ls hl => W.lcmp hx.1 hx.2.1 hdg (k p e R s m args below meth c mc ms hx H locs cells slots hH h1 h2 ls hl)
theorem gb_iconst {n : Int} (v : Int32) (hdg : decode M.2.1 pc = .ok (.iconst n, 1)) (hv : Int32.ofInt n = v) (k : gb_J Γ M d Q kc ks sh g (pc + 1) lv (.int v :: st)) : gb_J Γ M d Q kc ks sh g (pc) lv (st) := fun p e R s m args below meth c mc ms hx H locs cells slots hH h1 h2 ls hl => lv_iconst hx.1 hx.2.1 hdg hv (k p e R s m args below meth c mc ms hx H locs cells slots hH h1 h2 ls hl)
theorem gb_bipush {n : Int} (v : Int32) (hdg : decode M.2.1 pc = .ok (.bipush n, 2)) (hv : (Int8.ofInt n).toInt32 = v) (k : gb_J Γ M d Q kc ks sh g (pc + 2) lv (.int v :: st)) : gb_J Γ M d Q kc ks sh g (pc) lv (st) := fun p e R s m args below meth c mc ms hx H locs cells slots hH h1 h2 ls hl => lv_bipush hx.1 hx.2.1 hdg hv (k p e R s m args below meth c mc ms hx H locs cells slots hH h1 h2 ls hl)
theorem gb_sipush {n : Int} (v : Int32) (hdg : decode M.2.1 pc = .ok (.sipush n, 3)) (hv : (Int16.ofInt n).toInt32 = v) (k : gb_J Γ M d Q kc ks sh g (pc + 3) lv (.int v :: st)) : gb_J Γ M d Q kc ks sh g (pc) lv (st) := fun p e R s m args below meth c mc ms hx H locs cells slots hH h1 h2 ls hl => lv_sipush hx.1 hx.2.1 hdg hv (k p e R s m args below meth c mc ms hx H locs cells slots hH h1 h2 ls hl)
theorem gb_lconst {n : Fin 2} (v : Int64) (hdg : decode M.2.1 pc = .ok (.lconst n, 1)) (hv : Int64.ofNat (n : Nat) = v) (k : gb_J Γ M d Q kc ks sh g (pc + 1) lv (.long v :: st)) : gb_J Γ M d Q kc ks sh g (pc) lv (st) := fun p e R s m args below meth c mc ms hx H locs cells slots hH h1 h2 ls hl => lv_lconst hx.1 hx.2.1 hdg hv (k p e R s m args below meth c mc ms hx H locs cells slots hH h1 h2 ls hl)
theorem gb_null (hdg : decode M.2.1 pc = .ok (.aconst_null, 1)) (k : gb_J Γ M d Q kc ks sh g (pc + 1) lv (.null :: st)) : gb_J Γ M d Q kc ks sh g (pc) lv (st) := fun p e R s m args below meth c mc ms hx H locs cells slots hH h1 h2 ls hl => lv_null hx.1 hx.2.1 hdg (k p e R s m args below meth c mc ms hx H locs cells slots hH h1 h2 ls hl)
theorem gb_ldc {index : Nat} (v : Int32) (hw : Jvm.Cond.constant M.1.cls index v ∈ lw_tbl) (hdg : decode M.2.1 pc = .ok (.ldc index, 2)) (k : gb_J Γ M d Q kc ks sh g (pc + 2) lv (.int v :: st)) : gb_J Γ M d Q kc ks sh g (pc) lv (st) := fun p e R s m args below meth c mc ms hx H locs cells slots hH h1 h2 ls hl => lv_ldc hx.1 hx.2.1 hx.2.2.2.2.1 (hx.2.2.2.2.2.2.2.1.word hw rfl args) hdg (k p e R s m args below meth c mc ms hx H locs cells slots hH h1 h2 ls hl)
theorem gb_ldcw {index : Nat} (v : Int32) (hw : Jvm.Cond.constant M.1.cls index v ∈ lw_tbl) (hdg : decode M.2.1 pc = .ok (.ldc_w index, 3)) (k : gb_J Γ M d Q kc ks sh g (pc + 3) lv (.int v :: st)) : gb_J Γ M d Q kc ks sh g (pc) lv (st) := fun p e R s m args below meth c mc ms hx H locs cells slots hH h1 h2 ls hl => lv_ldcw hx.1 hx.2.1 hx.2.2.2.2.1 (hx.2.2.2.2.2.2.2.1.word hw rfl args) hdg (k p e R s m args below meth c mc ms hx H locs cells slots hH h1 h2 ls hl)
theorem gb_ldc2 {index : Nat} (v : Int64) (hw : Jvm.Cond.constantLong M.1.cls index v ∈ lw_tbl) (hdg : decode M.2.1 pc = .ok (.ldc2_w index, 3)) (k : gb_J Γ M d Q kc ks sh g (pc + 3) lv (.long v :: st)) : gb_J Γ M d Q kc ks sh g (pc) lv (st) := fun p e R s m args below meth c mc ms hx H locs cells slots hH h1 h2 ls hl => lv_ldc2 hx.1 hx.2.1 hx.2.2.2.2.1 (hx.2.2.2.2.2.2.2.1.word hw rfl args) hdg (k p e R s m args below meth c mc ms hx H locs cells slots hH h1 h2 ls hl)
theorem gb_iload_n {j : Fin 4} {x : Int32} (hdg : decode M.2.1 pc = .ok (.iload_n j, 1)) (hv : lv.lookup (j : Nat) = some (.int x)) (k : gb_J Γ M d Q kc ks sh g (pc + 1) lv (.int x :: st)) : gb_J Γ M d Q kc ks sh g (pc) lv (st) := fun p e R s m args below meth c mc ms hx H locs cells slots hH h1 h2 ls hl => lv_iload_n hx.1 hx.2.1 hdg rfl (gb_lk hl hv) (k p e R s m args below meth c mc ms hx H locs cells slots hH h1 h2 ls hl)
theorem gb_iload {j : Nat} {x : Int32} (hdg : decode M.2.1 pc = .ok (.iload j, 2)) (hv : lv.lookup j = some (.int x)) (k : gb_J Γ M d Q kc ks sh g (pc + 2) lv (.int x :: st)) : gb_J Γ M d Q kc ks sh g (pc) lv (st) := fun p e R s m args below meth c mc ms hx H locs cells slots hH h1 h2 ls hl => lv_iload hx.1 hx.2.1 hdg (gb_lk hl hv) (k p e R s m args below meth c mc ms hx H locs cells slots hH h1 h2 ls hl)
theorem gb_lload_n {j : Fin 4} {x : Int64} (hdg : decode M.2.1 pc = .ok (.lload_n j, 1)) (hv : lv.lookup (j : Nat) = some (.long x)) (k : gb_J Γ M d Q kc ks sh g (pc + 1) lv (.long x :: st)) : gb_J Γ M d Q kc ks sh g (pc) lv (st) := fun p e R s m args below meth c mc ms hx H locs cells slots hH h1 h2 ls hl => lv_lload_n hx.1 hx.2.1 hdg rfl (gb_lk hl hv) (k p e R s m args below meth c mc ms hx H locs cells slots hH h1 h2 ls hl)
theorem gb_lload {j : Nat} {x : Int64} (hdg : decode M.2.1 pc = .ok (.lload j, 2)) (hv : lv.lookup j = some (.long x)) (k : gb_J Γ M d Q kc ks sh g (pc + 2) lv (.long x :: st)) : gb_J Γ M d Q kc ks sh g (pc) lv (st) := fun p e R s m args below meth c mc ms hx H locs cells slots hH h1 h2 ls hl => lv_lload hx.1 hx.2.1 hdg (gb_lk hl hv) (k p e R s m args below meth c mc ms hx H locs cells slots hH h1 h2 ls hl)
theorem gb_aload_n {j : Fin 4} {x : Nat} (hdg : decode M.2.1 pc = .ok (.aload_n j, 1)) (hv : lv.lookup (j : Nat) = some (.ref x)) (k : gb_J Γ M d Q kc ks sh g (pc + 1) lv (.ref x :: st)) : gb_J Γ M d Q kc ks sh g (pc) lv (st) := fun p e R s m args below meth c mc ms hx H locs cells slots hH h1 h2 ls hl => lv_aload_n hx.1 hx.2.1 hdg rfl (gb_lk hl hv) (k p e R s m args below meth c mc ms hx H locs cells slots hH h1 h2 ls hl)
theorem gb_aload {j : Nat} {x : Nat} (hdg : decode M.2.1 pc = .ok (.aload j, 2)) (hv : lv.lookup j = some (.ref x)) (k : gb_J Γ M d Q kc ks sh g (pc + 2) lv (.ref x :: st)) : gb_J Γ M d Q kc ks sh g (pc) lv (st) := fun p e R s m args below meth c mc ms hx H locs cells slots hH h1 h2 ls hl => lv_aload hx.1 hx.2.1 hdg (gb_lk hl hv) (k p e R s m args below meth c mc ms hx H locs cells slots hH h1 h2 ls hl)
theorem gb_istore_n {j : Fin 4} {x : Int32} (lv' : List (Nat × Value)) (hdg : decode M.2.1 pc = .ok (.istore_n j, 1)) (hn : (j : Nat) < M.2.2.1) (hv : ((j : Nat), Value.int x) :: lv.filter (fun q => !(q.1 == (j : Nat)) && !(q.1 + 1 == (j : Nat) && q.2.category == 2)) = lv') (k : gb_J Γ M d Q kc ks sh g (pc + 1) lv' (st)) : gb_J Γ M d Q kc ks sh g (pc) lv (.int x :: st) := by
  intro p e R s m args below meth c mc ms hx H locs cells slots hH h1 h2 ls hl
  refine lv_istore_n (lv' := gb_lv Γ lv') hx.1 hx.2.1 hdg rfl hl hn ?_ (fun ls' hl' => k p e R s m args below meth c mc ms hx H locs cells slots hH h1 h2 ls' hl')
  rw [← hv, gb_lv_filter Γ lv (fun a b => !(a == (j : Nat)) && !(a + 1 == (j : Nat) && b == 2))]
  rfl
theorem gb_istore {j : Nat} {x : Int32} (lv' : List (Nat × Value)) (hdg : decode M.2.1 pc = .ok (.istore j, 2)) (hn : j < M.2.2.1) (hv : (j, Value.int x) :: lv.filter (fun q => !(q.1 == j) && !(q.1 + 1 == j && q.2.category == 2)) = lv') (k : gb_J Γ M d Q kc ks sh g (pc + 2) lv' (st)) : gb_J Γ M d Q kc ks sh g (pc) lv (.int x :: st) := by
  intro p e R s m args below meth c mc ms hx H locs cells slots hH h1 h2 ls hl
  refine lv_istore (lv' := gb_lv Γ lv') hx.1 hx.2.1 hdg hl hn ?_ (fun ls' hl' => k p e R s m args below meth c mc ms hx H locs cells slots hH h1 h2 ls' hl')
  rw [← hv, gb_lv_filter Γ lv (fun a b => !(a == j) && !(a + 1 == j && b == 2))]
  rfl
theorem gb_lstore_n {j : Fin 4} {x : Int64} (lv' : List (Nat × Value)) (hdg : decode M.2.1 pc = .ok (.lstore_n j, 1)) (hn : (j : Nat) + 1 < M.2.2.1) (hv : ((j : Nat), Value.long x) :: lv.filter (fun q => !(q.1 == (j : Nat)) && (!(q.1 == (j : Nat) + 1) && !(q.1 + 1 == (j : Nat) && q.2.category == 2))) = lv') (k : gb_J Γ M d Q kc ks sh g (pc + 1) lv' (st)) : gb_J Γ M d Q kc ks sh g (pc) lv (.long x :: st) := by
  intro p e R s m args below meth c mc ms hx H locs cells slots hH h1 h2 ls hl
  refine lv_lstore_n (lv' := gb_lv Γ lv') hx.1 hx.2.1 hdg rfl hl hn ?_ (fun ls' hl' => k p e R s m args below meth c mc ms hx H locs cells slots hH h1 h2 ls' hl')
  rw [← hv, gb_lv_filter Γ lv (fun a b => !(a == (j : Nat)) && (!(a == (j : Nat) + 1) && !(a + 1 == (j : Nat) && b == 2)))]
  rfl
theorem gb_lstore {j : Nat} {x : Int64} (lv' : List (Nat × Value)) (hdg : decode M.2.1 pc = .ok (.lstore j, 2)) (hn : j + 1 < M.2.2.1) (hv : (j, Value.long x) :: lv.filter (fun q => !(q.1 == j) && (!(q.1 == j + 1) && !(q.1 + 1 == j && q.2.category == 2))) = lv') (k : gb_J Γ M d Q kc ks sh g (pc + 2) lv' (st)) : gb_J Γ M d Q kc ks sh g (pc) lv (.long x :: st) := by
  intro p e R s m args below meth c mc ms hx H locs cells slots hH h1 h2 ls hl
  refine lv_lstore (lv' := gb_lv Γ lv') hx.1 hx.2.1 hdg hl hn ?_ (fun ls' hl' => k p e R s m args below meth c mc ms hx H locs cells slots hH h1 h2 ls' hl')
  rw [← hv, gb_lv_filter Γ lv (fun a b => !(a == j) && (!(a == j + 1) && !(a + 1 == j && b == 2)))]
  rfl
theorem gb_astore_n {j : Fin 4} {x : Nat} (lv' : List (Nat × Value)) (hdg : decode M.2.1 pc = .ok (.astore_n j, 1)) (hn : (j : Nat) < M.2.2.1) (hv : ((j : Nat), Value.ref x) :: lv.filter (fun q => !(q.1 == (j : Nat)) && !(q.1 + 1 == (j : Nat) && q.2.category == 2)) = lv') (k : gb_J Γ M d Q kc ks sh g (pc + 1) lv' (st)) : gb_J Γ M d Q kc ks sh g (pc) lv (.ref x :: st) := by
  intro p e R s m args below meth c mc ms hx H locs cells slots hH h1 h2 ls hl
  refine lv_astore_n (lv' := gb_lv Γ lv') hx.1 hx.2.1 hdg rfl hl hn ?_ (fun ls' hl' => k p e R s m args below meth c mc ms hx H locs cells slots hH h1 h2 ls' hl')
  rw [← hv, gb_lv_filter Γ lv (fun a b => !(a == (j : Nat)) && !(a + 1 == (j : Nat) && b == 2))]
  rfl
theorem gb_astore {j : Nat} {x : Nat} (lv' : List (Nat × Value)) (hdg : decode M.2.1 pc = .ok (.astore j, 2)) (hn : j < M.2.2.1) (hv : (j, Value.ref x) :: lv.filter (fun q => !(q.1 == j) && !(q.1 + 1 == j && q.2.category == 2)) = lv') (k : gb_J Γ M d Q kc ks sh g (pc + 2) lv' (st)) : gb_J Γ M d Q kc ks sh g (pc) lv (.ref x :: st) := by
  intro p e R s m args below meth c mc ms hx H locs cells slots hH h1 h2 ls hl
  refine lv_astore (lv' := gb_lv Γ lv') hx.1 hx.2.1 hdg hl hn ?_ (fun ls' hl' => k p e R s m args below meth c mc ms hx H locs cells slots hH h1 h2 ls' hl')
  rw [← hv, gb_lv_filter Γ lv (fun a b => !(a == j) && !(a + 1 == j && b == 2))]
  rfl
theorem gb_iinc {j : Nat} {n : Int} {x : Int32} (v : Int32) (lv' : List (Nat × Value)) (hdg : decode M.2.1 pc = .ok (.iinc j n, 3)) (hn : j < M.2.2.1) (hx0 : lv.lookup j = some (.int x)) (hvv : x + Int32.ofInt n = v) (hv : (j, Value.int v) :: lv.filter (fun q => !(q.1 == j) && !(q.1 + 1 == j && q.2.category == 2)) = lv') (k : gb_J Γ M d Q kc ks sh g (pc + 3) lv' (st)) : gb_J Γ M d Q kc ks sh g (pc) lv (st) := by
  intro p e R s m args below meth c mc ms hx H locs cells slots hH h1 h2 ls hl
  have hm : (j, Value.int x) ∈ gb_lv Γ lv := by
    have hm0 : (j, Value.int x) ∈ lv := by
      clear hv hl
      induction lv with
      | nil => cases hx0
      | cons q t ih =>
        obtain ⟨i, u⟩ := q
        rw [List.lookup_cons] at hx0
        by_cases hj : j == i
        · rw [hj] at hx0
          cases hx0
          rw [eq_of_beq hj]
          exact List.mem_cons_self
        · simp only [hj] at hx0
          exact List.mem_cons_of_mem _ (ih hx0)
    exact List.mem_map.mpr ⟨(j, .int x), hm0, rfl⟩
  obtain ⟨i0, hi0⟩ := List.getElem?_of_mem hm
  refine lv_iinc (lv' := gb_lv Γ lv') hx.1 hx.2.1 hdg hl hi0 hvv hn ?_ (fun ls' hl' => k p e R s m args below meth c mc ms hx H locs cells slots hH h1 h2 ls' hl')
  rw [← hv, gb_lv_filter Γ lv (fun a b => !(a == j) && !(a + 1 == j && b == 2))]
  rfl
theorem gb_dup {v : Value} (hdg : decode M.2.1 pc = .ok (.dup, 1)) (hc : v.category = 1) (k : gb_J Γ M d Q kc ks sh g (pc + 1) lv (v :: v :: st)) : gb_J Γ M d Q kc ks sh g (pc) lv (v :: st) := fun p e R s m args below meth c mc ms hx H locs cells slots hH h1 h2 ls hl => lv_dup hx.1 hx.2.1 hdg ((gb_cv_cat Γ v).trans hc) (k p e R s m args below meth c mc ms hx H locs cells slots hH h1 h2 ls hl)
theorem gb_pop {v : Value} (hdg : decode M.2.1 pc = .ok (.pop, 1)) (hc : v.category = 1) (k : gb_J Γ M d Q kc ks sh g (pc + 1) lv (st)) : gb_J Γ M d Q kc ks sh g (pc) lv (v :: st) := fun p e R s m args below meth c mc ms hx H locs cells slots hH h1 h2 ls hl => lv_pop hx.1 hx.2.1 hdg ((gb_cv_cat Γ v).trans hc) (k p e R s m args below meth c mc ms hx H locs cells slots hH h1 h2 ls hl)
theorem gb_icmp_eq {x y : Int32} {off : Int} (tgt : Nat) (hdg : decode M.2.1 pc = .ok (.if_icmp .eq off, 3)) (ht : (pc : Int) + off = (tgt : Int)) (kt : x = y → gb_J Γ M d Q kc ks sh g (tgt) lv (st)) (kf : ¬ x = y → gb_J Γ M d Q kc ks sh g (pc + 3) lv (st)) : gb_J Γ M d Q kc ks sh g (pc) lv (.int y :: .int x :: st) := fun p e R s m args below meth c mc ms hx H locs cells slots hH h1 h2 ls hl => lv_icmp_eq hx.1 hx.2.1 hdg ht (fun q => kt q p e R s m args below meth c mc ms hx H locs cells slots hH h1 h2 ls hl) (fun q => kf q p e R s m args below meth c mc ms hx H locs cells slots hH h1 h2 ls hl)
theorem gb_icmp_ne {x y : Int32} {off : Int} (tgt : Nat) (hdg : decode M.2.1 pc = .ok (.if_icmp .ne off, 3)) (ht : (pc : Int) + off = (tgt : Int)) (kt : ¬ x = y → gb_J Γ M d Q kc ks sh g (tgt) lv (st)) (kf : x = y → gb_J Γ M d Q kc ks sh g (pc + 3) lv (st)) : gb_J Γ M d Q kc ks sh g (pc) lv (.int y :: .int x :: st) := fun p e R s m args below meth c mc ms hx H locs cells slots hH h1 h2 ls hl => lv_icmp_ne hx.1 hx.2.1 hdg ht (fun q => kt q p e R s m args below meth c mc ms hx H locs cells slots hH h1 h2 ls hl) (fun q => kf q p e R s m args below meth c mc ms hx H locs cells slots hH h1 h2 ls hl)
theorem gb_icmp_lt {x y : Int32} {off : Int} (tgt : Nat) (hdg : decode M.2.1 pc = .ok (.if_icmp .lt off, 3)) (ht : (pc : Int) + off = (tgt : Int)) (kt : x < y → gb_J Γ M d Q kc ks sh g (tgt) lv (st)) (kf : ¬ x < y → gb_J Γ M d Q kc ks sh g (pc + 3) lv (st)) : gb_J Γ M d Q kc ks sh g (pc) lv (.int y :: .int x :: st) := fun p e R s m args below meth c mc ms hx H locs cells slots hH h1 h2 ls hl => lv_icmp_lt hx.1 hx.2.1 hdg ht (fun q => kt q p e R s m args below meth c mc ms hx H locs cells slots hH h1 h2 ls hl) (fun q => kf q p e R s m args below meth c mc ms hx H locs cells slots hH h1 h2 ls hl)
theorem gb_icmp_ge {x y : Int32} {off : Int} (tgt : Nat) (hdg : decode M.2.1 pc = .ok (.if_icmp .ge off, 3)) (ht : (pc : Int) + off = (tgt : Int)) (kt : y ≤ x → gb_J Γ M d Q kc ks sh g (tgt) lv (st)) (kf : ¬ y ≤ x → gb_J Γ M d Q kc ks sh g (pc + 3) lv (st)) : gb_J Γ M d Q kc ks sh g (pc) lv (.int y :: .int x :: st) := fun p e R s m args below meth c mc ms hx H locs cells slots hH h1 h2 ls hl => lv_icmp_ge hx.1 hx.2.1 hdg ht (fun q => kt q p e R s m args below meth c mc ms hx H locs cells slots hH h1 h2 ls hl) (fun q => kf q p e R s m args below meth c mc ms hx H locs cells slots hH h1 h2 ls hl)
theorem gb_icmp_gt {x y : Int32} {off : Int} (tgt : Nat) (hdg : decode M.2.1 pc = .ok (.if_icmp .gt off, 3)) (ht : (pc : Int) + off = (tgt : Int)) (kt : y < x → gb_J Γ M d Q kc ks sh g (tgt) lv (st)) (kf : ¬ y < x → gb_J Γ M d Q kc ks sh g (pc + 3) lv (st)) : gb_J Γ M d Q kc ks sh g (pc) lv (.int y :: .int x :: st) := fun p e R s m args below meth c mc ms hx H locs cells slots hH h1 h2 ls hl => lv_icmp_gt hx.1 hx.2.1 hdg ht (fun q => kt q p e R s m args below meth c mc ms hx H locs cells slots hH h1 h2 ls hl) (fun q => kf q p e R s m args below meth c mc ms hx H locs cells slots hH h1 h2 ls hl)
theorem gb_icmp_le {x y : Int32} {off : Int} (tgt : Nat) (hdg : decode M.2.1 pc = .ok (.if_icmp .le off, 3)) (ht : (pc : Int) + off = (tgt : Int)) (kt : x ≤ y → gb_J Γ M d Q kc ks sh g (tgt) lv (st)) (kf : ¬ x ≤ y → gb_J Γ M d Q kc ks sh g (pc + 3) lv (st)) : gb_J Γ M d Q kc ks sh g (pc) lv (.int y :: .int x :: st) := fun p e R s m args below meth c mc ms hx H locs cells slots hH h1 h2 ls hl => lv_icmp_le hx.1 hx.2.1 hdg ht (fun q => kt q p e R s m args below meth c mc ms hx H locs cells slots hH h1 h2 ls hl) (fun q => kf q p e R s m args below meth c mc ms hx H locs cells slots hH h1 h2 ls hl)
theorem gb_if_eq {x : Int32} {off : Int} (tgt : Nat) (hdg : decode M.2.1 pc = .ok (.ifCond .eq off, 3)) (ht : (pc : Int) + off = (tgt : Int)) (kt : x = 0 → gb_J Γ M d Q kc ks sh g (tgt) lv (st)) (kf : ¬ x = 0 → gb_J Γ M d Q kc ks sh g (pc + 3) lv (st)) : gb_J Γ M d Q kc ks sh g (pc) lv (.int x :: st) := fun p e R s m args below meth c mc ms hx H locs cells slots hH h1 h2 ls hl => lv_if_eq hx.1 hx.2.1 hdg ht (fun q => kt q p e R s m args below meth c mc ms hx H locs cells slots hH h1 h2 ls hl) (fun q => kf q p e R s m args below meth c mc ms hx H locs cells slots hH h1 h2 ls hl)
theorem gb_if_ne {x : Int32} {off : Int} (tgt : Nat) (hdg : decode M.2.1 pc = .ok (.ifCond .ne off, 3)) (ht : (pc : Int) + off = (tgt : Int)) (kt : ¬ x = 0 → gb_J Γ M d Q kc ks sh g (tgt) lv (st)) (kf : x = 0 → gb_J Γ M d Q kc ks sh g (pc + 3) lv (st)) : gb_J Γ M d Q kc ks sh g (pc) lv (.int x :: st) := fun p e R s m args below meth c mc ms hx H locs cells slots hH h1 h2 ls hl => lv_if_ne hx.1 hx.2.1 hdg ht (fun q => kt q p e R s m args below meth c mc ms hx H locs cells slots hH h1 h2 ls hl) (fun q => kf q p e R s m args below meth c mc ms hx H locs cells slots hH h1 h2 ls hl)
theorem gb_if_lt {x : Int32} {off : Int} (tgt : Nat) (hdg : decode M.2.1 pc = .ok (.ifCond .lt off, 3)) (ht : (pc : Int) + off = (tgt : Int)) (kt : x < 0 → gb_J Γ M d Q kc ks sh g (tgt) lv (st)) (kf : ¬ x < 0 → gb_J Γ M d Q kc ks sh g (pc + 3) lv (st)) : gb_J Γ M d Q kc ks sh g (pc) lv (.int x :: st) := fun p e R s m args below meth c mc ms hx H locs cells slots hH h1 h2 ls hl => lv_if_lt hx.1 hx.2.1 hdg ht (fun q => kt q p e R s m args below meth c mc ms hx H locs cells slots hH h1 h2 ls hl) (fun q => kf q p e R s m args below meth c mc ms hx H locs cells slots hH h1 h2 ls hl)
theorem gb_if_ge {x : Int32} {off : Int} (tgt : Nat) (hdg : decode M.2.1 pc = .ok (.ifCond .ge off, 3)) (ht : (pc : Int) + off = (tgt : Int)) (kt : 0 ≤ x → gb_J Γ M d Q kc ks sh g (tgt) lv (st)) (kf : ¬ 0 ≤ x → gb_J Γ M d Q kc ks sh g (pc + 3) lv (st)) : gb_J Γ M d Q kc ks sh g (pc) lv (.int x :: st) := fun p e R s m args below meth c mc ms hx H locs cells slots hH h1 h2 ls hl => lv_if_ge hx.1 hx.2.1 hdg ht (fun q => kt q p e R s m args below meth c mc ms hx H locs cells slots hH h1 h2 ls hl) (fun q => kf q p e R s m args below meth c mc ms hx H locs cells slots hH h1 h2 ls hl)
theorem gb_if_gt {x : Int32} {off : Int} (tgt : Nat) (hdg : decode M.2.1 pc = .ok (.ifCond .gt off, 3)) (ht : (pc : Int) + off = (tgt : Int)) (kt : 0 < x → gb_J Γ M d Q kc ks sh g (tgt) lv (st)) (kf : ¬ 0 < x → gb_J Γ M d Q kc ks sh g (pc + 3) lv (st)) : gb_J Γ M d Q kc ks sh g (pc) lv (.int x :: st) := fun p e R s m args below meth c mc ms hx H locs cells slots hH h1 h2 ls hl => lv_if_gt hx.1 hx.2.1 hdg ht (fun q => kt q p e R s m args below meth c mc ms hx H locs cells slots hH h1 h2 ls hl) (fun q => kf q p e R s m args below meth c mc ms hx H locs cells slots hH h1 h2 ls hl)
theorem gb_if_le {x : Int32} {off : Int} (tgt : Nat) (hdg : decode M.2.1 pc = .ok (.ifCond .le off, 3)) (ht : (pc : Int) + off = (tgt : Int)) (kt : x ≤ 0 → gb_J Γ M d Q kc ks sh g (tgt) lv (st)) (kf : ¬ x ≤ 0 → gb_J Γ M d Q kc ks sh g (pc + 3) lv (st)) : gb_J Γ M d Q kc ks sh g (pc) lv (.int x :: st) := fun p e R s m args below meth c mc ms hx H locs cells slots hH h1 h2 ls hl => lv_if_le hx.1 hx.2.1 hdg ht (fun q => kt q p e R s m args below meth c mc ms hx H locs cells slots hH h1 h2 ls hl) (fun q => kf q p e R s m args below meth c mc ms hx H locs cells slots hH h1 h2 ls hl)
theorem gb_goto {off : Int} (tgt : Nat) (hdg : decode M.2.1 pc = .ok (.goto off, 3)) (ht : (pc : Int) + off = (tgt : Int)) (k : gb_J Γ M d Q kc ks sh g (tgt) lv (st)) : gb_J Γ M d Q kc ks sh g (pc) lv (st) := fun p e R s m args below meth c mc ms hx H locs cells slots hH h1 h2 ls hl => lv_goto hx.1 hx.2.1 hdg ht (k p e R s m args below meth c mc ms hx H locs cells slots hH h1 h2 ls hl)
theorem gb_dup2 {u v : Value} (hdg : decode M.2.1 pc = .ok (.dup2, 1)) (hu : u.category = 1) (hv : v.category = 1) (k : gb_J Γ M d Q kc ks sh g (pc + 1) lv (v :: u :: v :: u :: st)) : gb_J Γ M d Q kc ks sh g (pc) lv (v :: u :: st) := fun p e R s m args below meth c mc ms hx H locs cells slots hH h1 h2 ls hl => lv_dup2_11 hx.1 hx.2.1 hdg ((gb_cv_cat Γ v).trans hv) ((gb_cv_cat Γ u).trans hu) (k p e R s m args below meth c mc ms hx H locs cells slots hH h1 h2 ls hl)
theorem gb_dup2l {v : Value} (hdg : decode M.2.1 pc = .ok (.dup2, 1)) (hv : v.category = 2) (k : gb_J Γ M d Q kc ks sh g (pc + 1) lv (v :: v :: st)) : gb_J Γ M d Q kc ks sh g (pc) lv (v :: st) := fun p e R s m args below meth c mc ms hx H locs cells slots hH h1 h2 ls hl => lv_dup2_2 hx.1 hx.2.1 hdg ((gb_cv_cat Γ v).trans hv) (k p e R s m args below meth c mc ms hx H locs cells slots hH h1 h2 ls hl)
theorem gb_table {dflt lo hi : Int} {offs : Array Int} {len : Nat} {x : Int32} (hdg : decode M.2.1 pc = .ok (.tableswitch dflt lo hi offs, len)) (ko : (x.toInt < lo ∨ hi < x.toInt) → ∃ tgt : Nat, (pc : Int) + dflt = (tgt : Int) ∧ gb_J Γ M d Q kc ks sh g (tgt) lv (st)) (ki : ¬ x.toInt < lo → ¬ hi < x.toInt → ∃ (off : Int) (tgt : Nat), offs[(x.toInt - lo).toNat]? = some off ∧ (pc : Int) + off = (tgt : Int) ∧ gb_J Γ M d Q kc ks sh g (tgt) lv (st)) : gb_J Γ M d Q kc ks sh g (pc) lv (.int x :: st) := by
  intro p e R s m args below meth c mc ms hx H locs cells slots hH h1 h2 ls hl
  by_cases q1 : x.toInt < lo
  · obtain ⟨tgt, ht, k⟩ := ko (Or.inl q1)
    exact lv_tableOut hx.1 hx.2.1 hdg (Or.inl q1) ht (k p e R s m args below meth c mc ms hx H locs cells slots hH h1 h2 ls hl)
  · by_cases q2 : hi < x.toInt
    · obtain ⟨tgt, ht, k⟩ := ko (Or.inr q2)
      exact lv_tableOut hx.1 hx.2.1 hdg (Or.inr q2) ht (k p e R s m args below meth c mc ms hx H locs cells slots hH h1 h2 ls hl)
    · obtain ⟨off, tgt, ho, ht, k⟩ := ki q1 q2
      exact lv_tableIn hx.1 hx.2.1 hdg q1 q2 ho ht (k p e R s m args below meth c mc ms hx H locs cells slots hH h1 h2 ls hl)
theorem gb_lookup {dflt : Int} {ps : Array (Int × Int)} {len : Nat} {x : Int32} {off : Int} (tgt : Nat) (hdg : decode M.2.1 pc = .ok (.lookupswitch dflt ps, len)) (hp : (ps.toList.zip (ps.toList.drop 1)).all (fun (a, next) => a.1 < next.1) = true) (ho : Op.lookupswitch.offset ps.toList dflt x.toInt = off) (ht : (pc : Int) + off = (tgt : Int)) (k : gb_J Γ M d Q kc ks sh g (tgt) lv (st)) : gb_J Γ M d Q kc ks sh g (pc) lv (.int x :: st) := fun p e R s m args below meth c mc ms hx H locs cells slots hH h1 h2 ls hl => lv_lookup hx.1 hx.2.1 hdg hp ho ht (k p e R s m args below meth c mc ms hx H locs cells slots hH h1 h2 ls hl)
theorem gb_ifnull {r : Option Nat} {off : Int} (tgt : Nat) (hdg : decode M.2.1 pc = .ok (.ifnull off, 3)) (ht : (pc : Int) + off = (tgt : Int)) (kt : r = none → gb_J Γ M d Q kc ks sh g (tgt) lv (st)) (kf : ∀ a, r = some a → gb_J Γ M d Q kc ks sh g (pc + 3) lv (st)) : gb_J Γ M d Q kc ks sh g (pc) lv (va_rf r :: st) := by
  intro p e R s m args below meth c mc ms hx H locs cells slots hH h1 h2 ls hl
  cases r with
  | none => exact lv_ifnullN hx.1 hx.2.1 hdg ht (kt rfl p e R s m args below meth c mc ms hx H locs cells slots hH h1 h2 ls hl)
  | some a => exact lv_ifnull hx.1 hx.2.1 hdg (kf a rfl p e R s m args below meth c mc ms hx H locs cells slots hH h1 h2 ls hl)
theorem gb_iret {v : Int32} (hdg : decode M.2.1 pc = .ok (.ireturn, 1)) (hr : M.2.2.2 = some .int) (h : Q sh g (some (.int v))) : gb_J Γ M d Q kc ks sh g (pc) lv ([.int v]) := by
  intro p e R s m args below meth c mc ms hx H locs cells slots hH h1 h2 ls hl
  refine W.widen (k := mc) (n := ms) (by omega) (by omega) ?_
  exact W.iret (v := v) hx.1 hx.2.1 (hx.2.2.1.trans hr) (fun t ht hW => ⟨sh, g, _, rfl, h, by rw [ht]; exact hH.nil⟩) hH.2.2.2 hdg hx.2.2.2.2.2.1
theorem gb_lret {v : Int64} (hdg : decode M.2.1 pc = .ok (.lreturn, 1)) (hr : M.2.2.2 = some .long) (h : Q sh g (some (.long v))) : gb_J Γ M d Q kc ks sh g (pc) lv ([.long v]) := by
  intro p e R s m args below meth c mc ms hx H locs cells slots hH h1 h2 ls hl
  refine W.widen (k := mc) (n := ms) (by omega) (by omega) ?_
  exact W.lret (v := v) hx.1 hx.2.1 (hx.2.2.1.trans hr) (fun t ht hW => ⟨sh, g, _, rfl, h, by rw [ht]; exact hH.nil⟩) hH.2.2.2 hdg hx.2.2.2.2.2.1
theorem gb_zret {v : Int32} (hdg : decode M.2.1 pc = .ok (.ireturn, 1)) (hr : M.2.2.2 = some .boolean) (hv : narrow .boolean (.int v) = .int v) (h : Q sh g (some (.int v))) : gb_J Γ M d Q kc ks sh g (pc) lv ([.int v]) := by
  intro p e R s m args below meth c mc ms hx H locs cells slots hH h1 h2 ls hl
  refine W.widen (k := mc) (n := ms) (by omega) (by omega) ?_
  exact W.zret (v := v) hx.1 hx.2.1 (hx.2.2.1.trans hr) hv (fun t ht hW => ⟨sh, g, _, rfl, h, by rw [ht]; exact hH.nil⟩) hH.2.2.2 hdg hx.2.2.2.2.2.1
theorem gb_nret {v : Int32} {ty : FieldType} (hdg : decode M.2.1 pc = .ok (.ireturn, 1)) (hr : M.2.2.2 = some ty) (hv : narrow ty (.int v) = .int v) (h : Q sh g (some (.int v))) : gb_J Γ M d Q kc ks sh g (pc) lv ([.int v]) := by
  intro p e R s m args below meth c mc ms hx H locs cells slots hH h1 h2 ls hl
  refine W.widen (k := mc) (n := ms) (by omega) (by omega) ?_
  exact W.zret (v := v) hx.1 hx.2.1 (hx.2.2.1.trans hr) hv (fun t ht hW => ⟨sh, g, _, rfl, h, by rw [ht]; exact hH.nil⟩) hH.2.2.2 hdg hx.2.2.2.2.2.1
theorem gb_vret (hdg : decode M.2.1 pc = .ok (.return_, 1)) (hr : M.2.2.2 = none) (h : Q sh g none) : gb_J Γ M d Q kc ks sh g (pc) lv ([]) := by
  intro p e R s m args below meth c mc ms hx H locs cells slots hH h1 h2 ls hl
  refine W.widen (k := mc) (n := ms) (by omega) (by omega) ?_
  exact W.vret hx.1 hx.2.1 (hx.2.2.1.trans hr) (fun t ht hW => ⟨sh, g, none, rfl, h, by rw [ht]; exact hH.nil⟩) hH.2.2.2 hdg hx.2.2.2.2.2.1
theorem gb_aret {v : Value} {rt : FieldType} (hdg : decode M.2.1 pc = .ok (.areturn, 1)) (hr : M.2.2.2 = some rt) (hrt : (∃ n, rt = .object n) ∨ ∃ t, rt = .array t) (hv : v = .null ∨ ∃ a, v = .ref a) (h : Q sh g (some v)) : gb_J Γ M d Q kc ks sh g (pc) lv ([v]) := by
  intro p e R s m args below meth c mc ms hx H locs cells slots hH h1 h2 ls hl
  refine W.widen (k := mc) (n := ms) (by omega) (by omega) ?_
  exact W.aret (v := gb_cv Γ v) hx.1 hx.2.1 (hx.2.2.1.trans hr) hrt (by rcases hv with rfl | ⟨a, rfl⟩ <;> simp [gb_cv]) (fun t ht hW => ⟨sh, g, some v, rfl, h, by rw [ht]; exact hH.nil⟩) hH.2.2.2 hdg hx.2.2.2.2.2.1
end GB
