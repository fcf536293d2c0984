/-! ===== the judgement: a method's code over an abstract heap; cell c of the abstract heap lies at the address sz + c ===== -/
/-- what a cell is: an array (kind of its elements, length) or an object (class, kinds of its fields: 0 an int, 1 a long, 2 null, k + 3 the cell k) -/
abbrev gb_Sh : Type := (Nat × Nat) ⊕ (Nat × List Nat)
/-- what the cells hold: ints, longs, references, by cell and place -/
abbrev gb_G : Type := (Nat → Nat → Int32) × (Nat → Nat → Int64) × (Nat → Nat → Option Nat)
/-- launch; classes; array classes; the law's start; addresses of what is only read -/
abbrev gb_X : Type := Launch × va_G × (Nat → ClassId) × State × (Nat → Nat)
/-- a method: its name, bytes, locals, what it answers -/
abbrev gb_M : Type := MethodName × ByteArray × Nat × Option FieldType
def gb_sz (Γ : gb_X) : Nat := Γ.2.2.2.1.heap.size
def gb_cv (Γ : gb_X) (v : Value) : Value := match v with
  | .ref k => .ref (gb_sz Γ + k)
  | .float j => .ref (Γ.2.2.2.2 j.toNat)
  | .int x => .int x
  | .long x => .long x
  | .double x => .double x
  | .null => .null
theorem gb_cv_cat (Γ : gb_X) (v : Value) : (gb_cv Γ v).category = v.category := by cases v <;> rfl
def gb_fv (Γ : gb_X) (g : gb_G) (c j k : Nat) : Value := match k with
  | 0 => .int (g.1 c j)
  | 1 => .long (g.2.1 c j)
  | 2 => .null
  | k + 3 => .ref (gb_sz Γ + k)
def gb_fs (Γ : gb_X) (g : gb_G) (c : Nat) (ks : List Nat) : List Value := ks.mapIdx (gb_fv Γ g c)
def gb_ct (Γ : gb_X) (g : gb_G) (c t : Nat) : (Nat → Int32) ⊕ (Nat → Int64) ⊕ (Nat → UInt32) ⊕ (Nat → UInt64) ⊕ (Nat → Option Nat) := match t with
  | 0 => .inl (g.1 c)
  | 1 => .inr (.inl (g.2.1 c))
  | 2 => .inl (g.1 c)
  | _ => .inr (.inr (.inr (.inr (fun k => (g.2.2 c k).map (fun a => gb_sz Γ + a)))))
def gb_en (Γ : gb_X) (g : gb_G) (c : Nat) (x : gb_Sh) : va_E := match x with
  | .inl q => .inl (Γ.2.2.1 q.1, q.2, gb_ct Γ g c q.1)
  | .inr q => .inr (q.1, gb_fs Γ g c q.2)
def gb_ty (t : Nat) : FieldType := match t with
  | 0 => .int
  | 1 => .long
  | 2 => .boolean
  | 3 => .object "GladBasket$Program"
  | _ => .object "GladBasket$Basket"
def gb_K (Γ : gb_X) (U : State) : Prop := va_K Γ.2.1 vwCl ((List.range 5).map fun t => (Γ.2.2.1 t, gb_ty t)) U ∧ Γ.2.2.2.1.vm.Alike U.vm
def gb_H (Γ : gb_X) (sh : List gb_Sh) (g : gb_G) (H : Heap) (locs : List Loc) : Prop :=
  H.size = gb_sz Γ + sh.length ∧ (∀ (c : Nat) (x : gb_Sh), sh[c]? = some x → va_at Γ.2.1 vwCl (gb_sz Γ + c, gb_en Γ g c x) H) ∧ (∀ q : Nat, q < gb_sz Γ → H[q]? = Γ.2.2.2.1.heap[q]?) ∧ ∀ q ∈ locs, gb_sz Γ ≤ q.base
def gb_Q (Γ : gb_X) (Q : List gb_Sh → gb_G → Option Value → Prop) : Array Value → State → Outcome → State → Prop := fun _ _ o t =>
  ∃ (sh : List gb_Sh) (g : gb_G) (v : Option Value), o = .returned (v.map (gb_cv Γ)) ∧ Q sh g v ∧ gb_H Γ sh g t.heap []
def gb_ws (M : gb_M) : List Cond := Cond.code M.1 M.2.1 M.2.2.1 M.2.2.2 :: lw_tbl
def gb_rm (d kc ks : Nat) : Room := { frames := d, cells := kc, slots := ks, locals := 64 * d }
/-- a method's contract: from the heap (sh, g) with the arguments As, Q of what comes -/
def gb_C (Γ : gb_X) (M : gb_M) (d kc ks : Nat) (sh : List gb_Sh) (g : gb_G) (As : List Value) (Q : List gb_Sh → gb_G → Option Value → Prop) : Prop :=
  Met Γ.1 M.1 (gb_ws M) (gb_rm d kc ks) (fun a U => a = (As.map (gb_cv Γ)).toArray ∧ gb_H Γ sh g U.heap [] ∧ gb_K Γ U) (gb_Q Γ Q) kc ks (fun q => gb_sz Γ ≤ q)
def gb_Cx (Γ : gb_X) (M : gb_M) (d : Nat) (p : Program) (R : Room) (s : State) (m : MethodId) (args : Array Value) (meth : Method) (c : Code) (mc ms : Nat) : Prop :=
  p.tables.exec = Jvm.exec ∧ c.code = M.2.1 ∧ meth.sig.returnType = M.2.2.2 ∧ c.maxLocals = M.2.2.1 ∧ s.vm.findClass M.1.cls = some m.cls ∧ (∀ w ∈ lw_tbl, w.before args s = true) ∧ meth.locks = false ∧ meth.name = M.1.name ∧ gb_K Γ s ∧ d ≤ R.frames ∧ 64 * d ≤ R.locals ∧ mc ≤ R.cells ∧ ms ≤ R.slots
def gb_lv (Γ : gb_X) (lv : List (Nat × Value)) : List (Nat × Value) := lv.map fun q => (q.1, gb_cv Γ q.2)
/-- at pc of M, with locals lv and stack st, over the heap (sh, g), with room for kc cells of ks slots and d frames: it comes to Q -/
def gb_J (Γ : gb_X) (M : gb_M) (d : Nat) (Q : List gb_Sh → gb_G → Option Value → Prop) (kc ks : Nat) (sh : List gb_Sh) (g : gb_G) (pc : Nat) (lv : List (Nat × Value)) (st : List Value) : Prop :=
  ∀ (p : Program) (e : Env) (R : Room) (s : State) (m : MethodId) (args : Array Value) (below : List Frame) (meth : Method) (c : Code) (mc ms : Nat), gb_Cx Γ M d p R s m args meth c mc ms →
    ∀ (H : Heap) (locs : List Loc) (cells slots : Nat), gb_H Γ sh g H locs → cells + kc ≤ mc → slots + ks ≤ ms → ∀ ls : Array Slot, lv_has ls M.2.2.1 (gb_lv Γ lv) →
      W p Γ.1 e R s m args below meth c H locs cells slots (MQ below (gb_Q Γ Q) args s mc ms (fun q => gb_sz Γ ≤ q)) (F0 m pc ls (st.map (gb_cv Γ)))
theorem gb_lv_args (Γ : gb_X) (As : List Value) : ∀ i, lv_args i (As.map (gb_cv Γ)) = gb_lv Γ (lv_args i As) := by
  induction As with
  | nil => intro i; rfl
  | cons v vs ih =>
    intro i
    show (i, gb_cv Γ v) :: lv_args _ (vs.map (gb_cv Γ)) = (i, gb_cv Γ v) :: gb_lv Γ (lv_args _ vs)
    rw [ih, gb_cv_cat]
theorem gb_sl_len (Γ : gb_X) (As : List Value) : (lg_sl (As.map (gb_cv Γ))).length = (lg_sl As).length := by
  induction As with
  | nil => rfl
  | cons v vs ih =>
    simp only [lg_sl, List.map_cons, List.flatMap_cons, List.length_append, gb_cv_cat] at ih ⊢
    rw [ih]
    split <;> rfl
theorem gb_H.nil {Γ : gb_X} {sh : List gb_Sh} {g : gb_G} {H : Heap} {locs : List Loc} (h : gb_H Γ sh g H locs) : gb_H Γ sh g H [] := ⟨h.1, h.2.1, h.2.2.1, fun q hq => by cases hq⟩
set_option maxHeartbeats 1000000 in
theorem gb_C.of {Γ : gb_X} {M : gb_M} {d kc ks : Nat} {sh : List gb_Sh} {g : gb_G} {As : List Value} {Q : List gb_Sh → gb_G → Option Value → Prop} (hy : plainName M.1.cls = true) (hn : (lg_sl As).length ≤ M.2.2.1)
    (h : gb_J Γ M d Q kc ks sh g 0 (lv_args 0 As) []) : gb_C Γ M d kc ks sh g As Q := by
  obtain ⟨y, cc, maxL, ret⟩ := M
  refine Met.ofW (cc := cc) (maxL := maxL) (ret := ret) hy rfl ?_
  intro p e s m args below meth c s₁ B hml hv
  obtain ⟨rfl, hH, hK⟩ := hv
  have hts := atoms_spec (ws := gb_ws (y, cc, maxL, ret)) B.pre
  have hx : gb_Cx Γ (y, cc, maxL, ret) d p (gb_rm d kc ks) s m (As.map (gb_cv Γ)).toArray meth c kc ks :=
    ⟨B.exec, B.bytes, B.returns, hml, findClass_of_methodNamed B.named, fun w hw => hts w (List.mem_cons_of_mem _ hw), B.notSynchronized, (name_of_methodNamed B.named B.method).1, hK, Nat.le_refl _, Nat.le_refl _, Nat.le_refl _, Nat.le_refl _⟩
  have hl := lv_entry (As.map (gb_cv Γ)) (n := maxL) (by rw [gb_sl_len]; exact hn)
  rw [lg_entry_eq]
  rw [gb_lv_args] at hl
  exact h p e (gb_rm d kc ks) s m _ below meth c kc ks hx s.heap [] 0 0 hH (by simp) (by simp) _ hl
