/-! THE CLAIM OUT OF ONE WALK OF THE LAW'S BODY. Your part is whole_start (and what it stands on); all else here is the same for every law, but numbers. -/
def R_law : String := "GladBasketLaw"
def lw_P (b : Addr) (xs : List Int32) (args : Array Value) (s : State) : Prop := args = #[.ref b] ∧ s.IntsAt b xs ∧ xs.length ≤ 3072 ∧ (Jvm.Cond.and given_1 narrow_1).before args s = true
def lw_Q (_ : Array Value) (s : State) (o : Outcome) (t : State) : Prop := o = .returned (some (.int 1)) ∧ Framed s o t [] 600000 7302250
def lw_Z (below : List Frame) (a : Array Value) (s : State) : State → Prop := fun t => ∃ o, t.status = .running ∧ Ended t below o ∧ lw_Q a s o t
/-- the law's own end, with 1 on the stack, nothing written that was there before, its room as the claim has it -/
theorem lw_ret {p : Program} {l : Launch} {e : Env} {s : State} {m : MethodId} {below : List Frame} {meth : Method} {c : Code} {b : Nat} (hx : p.tables.exec = Jvm.exec) (hb : c.code = code) (hr : meth.sig.returnType = ret) (hlocks : meth.locks = false) {pc : Nat} {H : Heap} {ls : Array Slot} (hdg : decode code pc = .ok (.ireturn, 1)) : W p l e room_1 s m #[Value.ref b] below meth c H [] 600000 7302250 (lw_Z below #[Value.ref b] s) (F0 m pc ls [.int 1]) := by
  intro T hT X
  obtain ⟨fs, hret, hrun, hended, hW, hframe⟩ := X.leave (v := some (.int 1)) (hlocks := hlocks) (fun h => by rw [hr] at h; cases h)
  have hmeth' : T.vm.method? m = some meth := X.method'
  refine ⟨T.setFrames fs, ?_, .returned (some (.int 1)), hrun, hended, rfl, ⟨_, rfl⟩, hW, hframe⟩
  jvm_step X.here [X.here.top, hx, hb, hdg, hmeth', hr, ret, narrow_b1]
  (try refine ⟨rfl, ?_⟩); (try refine ⟨rfl, ?_⟩)
  first | (intro acts; rw [hret _ acts rfl rfl rfl]) | rw [hret _ _ rfl rfl rfl]
  exact Steps.refl _
/-- what holds at the law's entry: the machine, the code, the tables' words (any of lw_tbl by 'hts w (by decide +kernel)'), the script of L ints xs at the cell b, what the Statement gives of the start (any of its parts by flat_of_before) -/
def lw_At (p : Program) (s : State) (m : MethodId) (meth : Method) (c : Code) (b L : Nat) (xs : Nat → Int32) : Prop :=
  p.tables.exec = Jvm.exec ∧ c.code = code ∧ meth.sig.returnType = ret ∧ c.maxLocals = 4 ∧ s.vm.findClass R_law = some m.cls ∧ (∀ w ∈ lw_tbl, w.before #[Value.ref b] s = true) ∧ va_X b L xs s s.heap ∧ b < s.heap.size ∧ meth.locks = false ∧ (Jvm.Cond.and given_1 narrow_1).before #[Value.ref b] s = true ∧ meth.name = "law"
theorem gb_SHeq : gl_X10_init 0 ++ gl_X11_init 77 = gb_SH := by decide +kernel
set_option maxRecDepth 100000 in
set_option maxHeartbeats 8000000 in
/-- from the law's entry: both objects are made, then the loop -/
theorem gb_begin {Γ : gb_X} {I : List gb_Sh → gb_G → Prop} {Lz : Nat} {xs : Nat → Int32} (hL : Lz ≤ 3072) (hX : va_T .int (Γ.2.2.2.2 0) Lz (fun k => .int (xs k)) (fun q => gb_sz Γ ≤ q) Γ.2.2.2.1 Γ.2.2.2.1.heap) (hIS : ∀ sh g, I sh g → gb_S sh ∧ 105 ≤ sh.length) (hP : gb_Pure I) (hI0 : ∀ g, I gb_SH (gi_X11_init 77 (gb_z (gi_X10_init 0 (gb_z g 0)) 77))) (g : gb_G) : gb_J Γ M_L_law 500 (fun _ _ v => v = some (.int 1)) 600000 7302250 [] g 0 [(0, .retAddr 0)] [] := by
  refine gb_J.mono (kc' := 1 + (76 + (1 + (27 + 6 * 513)))) (ks' := 19 + (5696 + (56 + (23147 + 869 * 513)))) (by decide) (by decide) ?_
  refine gb_new n_L_7 (Nat.le_add_right _ _) (Nat.le_add_right _ _) d_L_law_0 ?_
  refine gb_dup d_L_law_3 rfl ?_
  refine gb_cIn (As := []) (rest := [.ref 0]) m_L_9 (ti_X10_init (Γ := Γ) (pre := []) (c := 0) rfl rfl) (Nat.le_of_ble_eq_true rfl) (Nat.le_of_ble_eq_true rfl) (Nat.le_of_ble_eq_true rfl) rfl rfl (Nat.le_of_ble_eq_true rfl) d_L_law_4 ?_
  refine gb_astore_n [(1, .ref 0), (0, .retAddr 0)] d_L_law_7 (Nat.le_of_ble_eq_true rfl) rfl ?_
  refine gb_new n_L_10 (Nat.le_of_ble_eq_true rfl) (Nat.le_of_ble_eq_true rfl) d_L_law_8 ?_
  rw [show (([] : List gb_Sh) ++ gl_X10_init 0).length = 77 from rfl]
  refine gb_dup d_L_law_11 rfl ?_
  refine gb_cIn (As := []) (rest := [.ref 77]) m_L_12 (ti_X11_init (Γ := Γ) (pre := gl_X10_init 0) (c := 77) rfl rfl) (Nat.le_of_ble_eq_true rfl) (Nat.le_of_ble_eq_true rfl) (Nat.le_of_ble_eq_true rfl) rfl rfl (Nat.le_of_ble_eq_true rfl) d_L_law_12 ?_
  rw [gb_SHeq]
  refine gb_astore_n [(2, .ref 77), (1, .ref 0), (0, .retAddr 0)] d_L_law_15 (Nat.le_of_ble_eq_true rfl) rfl ?_
  refine gb_iconst 0 d_L_law_16 rfl ?_
  refine gb_istore_n [(3, .int 0), (2, .ref 77), (1, .ref 0), (0, .retAddr 0)] d_L_law_17 (Nat.le_of_ble_eq_true rfl) rfl ?_
  refine gb_pick (lv' := [(0, .retAddr 0), (1, .ref 0), (2, .ref 77), (3, .int (Int32.ofNat (6 * 0)))]) [3, 2, 1, 0] rfl ?_
  refine gb_J.mono (kc' := 6 * 513) (ks' := 869 * 513) (Nat.le_of_ble_eq_true rfl) (Nat.le_of_ble_eq_true rfl) ?_
  exact gb_loop hL hX hIS hP 513 0 gb_SH _ (by omega) (by omega) (hI0 g)
theorem gb_arr {s : State} {A : Array Value} {ty : FieldType} (h : (Cond.arrayClass ty).before A s = true) : ∃ cA : ClassId, ArrOfT s cA ty ∧ s.vm.findClass ("[" ++ ty.toString) = some cA := by
  obtain ⟨c, k, comp, h1, h2, h3⟩ := Cond.arrayClass_spec h
  exact ⟨c, fun n z => ⟨fun k h => (by cases h), k, h2, comp, h3⟩, h1⟩
theorem gb_arrO {s : State} {A : Array Value} {C : String} (h : (Cond.arrayOver (.object C)).before A s = true) : ∃ cA : ClassId, ArrOfT s cA (.object C) ∧ va_RA s cA (.object C) := by
  obtain ⟨comp, c, k, h1, h2, h3, h4, h5⟩ := Cond.arrayOver_spec h
  exact ⟨c, fun n z => ⟨fun k h => (by cases h), k, h3, comp, h4⟩, k, comp, h3, h4, h1, h5⟩
set_option maxRecDepth 100000 in
set_option maxHeartbeats 8000000 in
theorem whole_of {I : List gb_Sh → gb_G → Prop} (hIS : ∀ sh g, I sh g → gb_S sh ∧ 105 ≤ sh.length) (hP : gb_Pure I) (hI0 : ∀ g, I gb_SH (gi_X11_init 77 (gb_z (gi_X10_init 0 (gb_z g 0)) 77))) {p : Program} {e : Env} {s : State} {m : MethodId} {below : List Frame} {meth : Method} {c : Code} (l : Launch) {b L : Nat} {xs : Nat → Int32} (hL : L ≤ 3072) (C0 : lw_At p s m meth c b L xs) : W p l e room_1 s m #[Value.ref b] below meth c s.heap [] 0 0 (lw_Z below #[Value.ref b] s) (entryFrame m ([Value.ref b] : List Value).toArray 4) := by
  obtain ⟨hx, hb, hr, hml, hown, hts, hX, hbl, hlocks, hgv, hname⟩ := C0
  obtain ⟨c0, iS0, hKn0⟩ := u_known (C := RX0) (T := TX0) (N := 10) (n := 10) hts inX0 (hts _ wl_i0)
  obtain ⟨c1, iS1, hKn1⟩ := u_known (C := RX1) (T := TX1) (N := 7) (n := 7) hts inX1 (hts _ wl_i1)
  obtain ⟨c2, iS2, hKn2⟩ := u_known (C := RX2) (T := TX2) (N := 2) (n := 2) hts inX2 (hts _ wl_i2)
  obtain ⟨c3, iS3, hKn3⟩ := u_known (C := RX3) (T := TX3) (N := 5) (n := 5) hts inX3 (hts _ wl_i3)
  obtain ⟨c4, iS4, hKn4⟩ := u_known (C := RX4) (T := TX4) (N := 3) (n := 3) hts inX4 (hts _ wl_i4)
  obtain ⟨c5, iS5, hKn5⟩ := u_known (C := RX5) (T := TX5) (N := 1) (n := 1) hts inX5 (hts _ wl_i5)
  obtain ⟨c6, iS6, hKn6⟩ := u_known (C := RX6) (T := TX6) (N := 15) (n := 15) hts inX6 (hts _ wl_i6)
  obtain ⟨c7, iS7, hKn7⟩ := u_known (C := RX7) (T := TX7) (N := 8) (n := 8) hts inX7 (hts _ wl_i7)
  obtain ⟨c8, iS8, hKn8⟩ := u_known (C := RX8) (T := TX8) (N := 4) (n := 4) hts inX8 (hts _ wl_i8)
  obtain ⟨c9, iS9, hKn9⟩ := u_known (C := RX9) (T := TX9) (N := 5) (n := 5) hts inX9 (hts _ wl_i9)
  obtain ⟨c10, iS10, hKn10⟩ := u_known (C := RX10) (T := TX10) (N := 19) (n := 19) hts inX10 (hts _ wl_i10)
  obtain ⟨c11, iS11, hKn11⟩ := u_known (C := RX11) (T := TX11) (N := 56) (n := 56) hts inX11 (hts _ wl_i11)
  obtain ⟨dC, dI, hKc⟩ : ∃ (dC : Nat → ClassId) (dI : Nat → Nat → Nat), ∀ (k : Nat) (q : vw_C), vwCl[k]? = some q → u_Kn s q.1 q.2.1 q.2.2 (dC k) (dI k) := by
    refine ⟨fun k => [c0, c1, c2, c3, c4, c5, c6, c7, c8, c9, c10, c11].getD k c0, fun k => [iS0, iS1, iS2, iS3, iS4, iS5, iS6, iS7, iS8, iS9, iS10, iS11].getD k iS0, ?_⟩
    intro k q hq
    match k, hq with
    | 0, hq => cases hq; exact hKn0
    | 1, hq => cases hq; exact hKn1
    | 2, hq => cases hq; exact hKn2
    | 3, hq => cases hq; exact hKn3
    | 4, hq => cases hq; exact hKn4
    | 5, hq => cases hq; exact hKn5
    | 6, hq => cases hq; exact hKn6
    | 7, hq => cases hq; exact hKn7
    | 8, hq => cases hq; exact hKn8
    | 9, hq => cases hq; exact hKn9
    | 10, hq => cases hq; exact hKn10
    | 11, hq => cases hq; exact hKn11
    | k + 12, hq => simp at hq
  obtain ⟨a0, ha0, hf0⟩ := gb_arr (hts _ wa_0)
  obtain ⟨a1, ha1, hf1⟩ := gb_arr (hts _ wa_1)
  obtain ⟨a2, ha2, hf2⟩ := gb_arr (hts _ wa_2)
  obtain ⟨a3, ha3, hf3⟩ := gb_arrO (hts _ wa_3)
  obtain ⟨a4, ha4, hf4⟩ := gb_arrO (hts _ wa_4)
  obtain ⟨dA, e0, e1, e2, e3, e4⟩ : ∃ dA : Nat → ClassId, dA 0 = a0 ∧ dA 1 = a1 ∧ dA 2 = a2 ∧ dA 3 = a3 ∧ dA 4 = a4 := ⟨fun t => [a0, a1, a2, a3, a4].getD t a0, rfl, rfl, rfl, rfl, rfl⟩
  subst e0 e1 e2 e3 e4
  obtain ⟨ro, hro, hRO⟩ := gb_ro_of hts hgv l (dC, dI) dA
  have hKK : va_K (dC, dI) vwCl (gb_tys (l, (dC, dI), dA, s, ro)) s := by
    refine ⟨hKc, fun k q hk => ?_⟩
    match k, hk with
    | 0, hk => cases hk; exact ⟨ha0, hf0⟩
    | 1, hk => cases hk; exact ⟨ha1, hf1⟩
    | 2, hk => cases hk; exact ⟨ha2, hf2⟩
    | 3, hk => cases hk; exact ⟨ha3, hf3⟩
    | 4, hk => cases hk; exact ⟨ha4, hf4⟩
    | k + 5, hk => exact absurd (List.getElem?_eq_some_iff.mp hk).1 (by simp [gb_tys])
  have hK : gb_K (l, (dC, dI), dA, s, ro) s := ⟨⟨by show ∀ w ∈ lw_tbl, w.before #[.ref (ro 0)] s = true; rw [hro]; exact hts, hRO⟩, hKK, State.WarmedH.refl s⟩
  have hXT : va_T .int (ro 0) L (fun k => .int (xs k)) (fun q => s.heap.size ≤ q) s s.heap := by
    obtain ⟨scr, h1, h2, h3, h4, h5⟩ := hX
    rw [hro]
    exact ⟨scr, h1, h2, h3, by omega, by rw [h4] <;> rfl, h5, Nat.not_le.mpr hbl⟩
  have hJ := gb_begin (Γ := (l, (dC, dI), dA, s, ro)) hL hXT hIS hP hI0 (fun _ _ => 0, fun _ _ => 0, fun _ _ => none)
  have hCx : gb_Cx (l, (dC, dI), dA, s, ro) M_L_law 500 p room_1 s m meth c 600000 7302250 := ⟨hx, hb, hr, hml, hown, hlocks, hname, hK, by decide, by decide, by decide, by decide⟩
  have hl := lv_entry ([.ref b]) (n := 4) (Nat.le_of_ble_eq_true rfl)
  rw [lg_entry_eq]
  generalize (lg_sl ([.ref b]) ++ List.replicate (4 - (lg_sl ([.ref b])).length) Slot.unset).toArray = ls at hl ⊢
  have hl : lv_has ls 4 [(0, .ref b)] := hl
  have K := hJ p e room_1 s m #[Value.ref b] below meth c 600000 7302250 hCx s.heap [] 0 0 ⟨rfl, fun c x hx => (by cases hx), fun q hq => rfl, fun q hq => (by cases hq)⟩ (by decide) (by decide) ls (by show lv_has ls 4 [(0, .ref (ro 0))]; rw [hro]; exact hl)
  intro T hT X
  obtain ⟨t, q1, oc, q2, q3, ⟨sh', g', v, q4, q5, q6⟩, Lc, q7, q8⟩ := K T hT X
  refine ⟨t, q1, oc, q2, q3, ?_, q7.1, q7.2.1, q7.2.2.weaken (fun y hy hlt => absurd hlt (Nat.not_lt.mpr (q8 y hy))) (Nat.le_refl _) (Nat.le_refl _)⟩
  rw [q4, q5]
  rfl
