/-! ===== Arrays.copyOf of ints, Program(Program), law() ===== -/
theorem gb_H.push {Γ : gb_X} {sh : List gb_Sh} {g g' : gb_G} {H H1 : Heap} {locs : List Loc} (hH : gb_H Γ sh g H locs) {x : gb_Sh} (hz : H1.size = H.size + 1) (ho : ∀ q, q < H.size → H1[q]? = H[q]?) (hat : va_at Γ.2.1 vwCl (gb_sz Γ + sh.length, gb_en Γ g' sh.length x) H1) (h1 : ∀ a, a ≠ sh.length → g'.1 a = g.1 a) (h2 : ∀ a, a ≠ sh.length → g'.2.1 a = g.2.1 a) (h3 : ∀ a, a ≠ sh.length → g'.2.2 a = g.2.2 a) : gb_H Γ (sh ++ [x]) g' H1 locs := by
  refine ⟨by rw [hz, hH.1]; simp; omega, fun a y hy => ?_, fun q hq => ?_, hH.2.2.2⟩
  · by_cases ha : a < sh.length
    · rw [List.getElem?_append_left ha] at hy
      have hne : a ≠ sh.length := by omega
      rw [gb_en_ne (h1 a hne) (h2 a hne) (h3 a hne)]
      exact (hH.2.1 a y hy).kept (ho _ (by rw [hH.1]; show gb_sz Γ + a < _; omega))
    · rw [List.getElem?_append_right (by omega)] at hy
      have h0 : a - sh.length < 1 := (List.getElem?_eq_some_iff.mp hy).1
      have h1 : a = sh.length := by omega
      subst h1
      simp at hy
      subst hy
      exact hat
  · rw [ho q (by rw [hH.1]; omega)]
    exact hH.2.2.1 q hq
def gb_clN : MethodName := ⟨"java/lang/Object", "clone", "()Ljava/lang/Object;"⟩
def gb_clA : MethodName := ⟨"[I", "clone", "()Ljava/lang/Object;"⟩
section GK
variable {Γ : gb_X} {M : gb_M} {d : Nat} {Q : gb_P} {kc ks : Nat} {sh : List gb_Sh} {g : gb_G} {pc : Nat} {lv : List (Nat × Value)} {st : List Value}
set_option maxHeartbeats 2000000 in
theorem gb_clone {idx a N : Nat} (hm : Cond.methodLink M.1.cls idx gb_clA ∈ lw_tbl) (hsm : Cond.sameMethod "[I" "java/lang/Object" "clone" "()Ljava/lang/Object;" ∈ lw_tbl) (hnat : Cond.native gb_clN ∈ lw_tbl) (hinst : Cond.instanceMethod gb_clN ∈ lw_tbl) (hsel : Cond.selects "[I" gb_clA gb_clN ∈ lw_tbl) (hcast : Cond.castable "[I" "java/lang/Cloneable" ∈ lw_tbl)
    (hs : sh[a]? = some (.inl (0, N))) (hd : 1 ≤ d) (hkc : 1 ≤ kc) (hks : N ≤ ks) (hrest : (st.map fun v => v.category).sum ≤ 8) (hdg : decode M.2.1 pc = .ok (.invokevirtual idx, 3))
    (k : gb_J Γ M d Q (kc - 1) (ks - N) (sh ++ [.inl (0, N)]) (gb_pa (gb_z g sh.length) sh.length (g.1 a)) (pc + 3) lv (.ref sh.length :: st)) : gb_J Γ M d Q kc ks sh g pc lv (.ref a :: st) := by
  intro p e R s m args below meth c mc ms hx H locs cells slots hH h1 h2 ls hl
  obtain ⟨x1, x2, x3, x4, x5, x6, x7, hK, x9, x10, x11, x12⟩ := id hx
  have hty := hK.k.2 0 _ (gb_tys_at Γ (by decide))
  have hnm : s.vm.findClass "[I" = some (Γ.2.2.1 0) := va_nm_int hty.2
  have hcl : va_Nw (.castable "[I" "java/lang/Cloneable") s := va_Nw.warmC hK.2.2 (va_Nw.of rfl (hK.1.1 _ hcast))
  obtain ⟨c0, t0', f1, f2, f3⟩ := Cond.castable_spec (va_Nw.use (A := args) rfl hcl)
  cases hnm.symm.trans f1
  intro T hT X
  have hcell : H[gb_sz Γ + a]? = some (arrV (Γ.2.2.1 0) N (fun j => .int (g.1 a j))) := hH.2.1 a _ hs
  have hcellT : T.heap[gb_sz Γ + a]? = some (arrV (Γ.2.2.1 0) N (fun j => .int (g.1 a j))) := by rw [hT]; exact hcell
  obtain ⟨-, kA, hkA, comp, hkind⟩ := State.isArrayOf_alike X.warmed.alike (hty.1 0 (fun _ => .null))
  obtain ⟨-, kS, hkS, compS, hkindS⟩ := hty.1 0 (fun _ => .null)
  obtain ⟨vm', X', step⟩ := X.cloneArray x1 x5 (hK.word hm rfl args) (hK.word hsm rfl args) (hK.word hnat rfl args) (hK.word hinst rfl args) (hK.word hsel rfl args) (a := gb_sz Γ + a) (cell := arrV (Γ.2.2.1 0) N (fun j => .int (g.1 a j))) hcellT (fun k h => by cases h) (fun h => by cases h) hnm f2 f3
    (fun i v hv => by
      have hk' : T.vm.classes[Γ.2.2.1 0]? = some kA := hkA
      have hfit : fits (gb_ty 0) v = true := va_fit (ty := gb_ty 0) (fun _ _ => rfl) i v hv
      simpa [State.fitsSlot, State.slotType?, arrV, hk', hkind] using hfit)
    (g := F0 m pc ls ((.ref a :: st : List Value).map (gb_cv Γ))) rfl (by rw [x4]; exact hl.1) (rest := st.map (gb_cv Γ)) rfl (by rw [x2]; exact hdg) (by omega) (by show 2 * 0 + _ + 14 ≤ _; rw [gb_cat]; omega) (by omega) (by rw [arrV_size]; omega) (hloader := Vm.clonesLoader_of_array hkS hkindS)
  rw [arrV_size] at X'
  generalize hc2 : ({ cls := (arrV (Γ.2.2.1 0) N (fun j => .int (g.1 a j))).cls, slots := (arrV (Γ.2.2.1 0) N (fun j => .int (g.1 a j))).slots } : Cell) = c2 at X' step
  have hc3 : c2 = arrV (Γ.2.2.1 0) N (fun j => .int (g.1 a j)) := hc2.symm
  generalize hH1 : H.push c2 = H1
  have z1 : H1.size = H.size + 1 := by rw [← hH1, Array.size_push]
  have e1 : H1[H.size]? = some c2 := by rw [← hH1, Array.getElem?_push_size]
  have o1 : ∀ q : Nat, q < H.size → H1[q]? = H[q]? := fun q hq => by rw [← hH1, Array.getElem?_push, if_neg (Nat.ne_of_lt hq)]
  have hG : gb_H Γ (sh ++ [.inl (0, N)]) (gb_pa (gb_z g sh.length) sh.length (g.1 a)) H1 locs := hH.push z1 o1 (by
    show H1[gb_sz Γ + sh.length]? = some (arrV (Γ.2.2.1 0) N (fun j => .int ((gb_pa (gb_z g sh.length) sh.length (g.1 a)).1 sh.length j)))
    rw [← hH.1, e1, hc3]
    simp [gb_pa]) (fun b hb => by simp [gb_pa, gb_z, hb]) (fun b hb => by simp [gb_pa, gb_z, hb]) (fun b hb => by simp [gb_pa, gb_z, hb])
  obtain ⟨t, b1, b2⟩ := k p e R s m args below meth c mc ms hx H1 locs (cells + 1) (slots + N) hG (by omega) (by omega) ls hl ((T.setVm vm').pushCell c2) (by rw [← hH1, ← hT]; rfl) X'
  refine ⟨t, step t ?_, b2⟩
  rw [hT, hH.1]
  exact b1
theorem gb_castI {idx a N : Nat} (hw : Cond.classLink M.1.cls idx "[I" ∈ lw_tbl) (hs : sh[a]? = some (.inl (0, N))) (hdg : decode M.2.1 pc = .ok (.checkcast idx, 3)) (k : gb_J Γ M d Q kc ks sh g (pc + 3) lv (.ref a :: st)) : gb_J Γ M d Q kc ks sh g pc lv (.ref a :: st) := by
  intro p e R s m args below meth c mc ms hx H locs cells slots hH h1 h2 ls hl
  obtain ⟨x1, x2, x3, x4, x5, x6, x7, hK, x9, x10, x11, x12⟩ := id hx
  have hnm : s.vm.findClass "[I" = some (Γ.2.2.1 0) := va_nm_int (hK.k.2 0 _ (gb_tys_at Γ (by decide))).2
  have hcell : H[gb_sz Γ + a]? = some (arrV (Γ.2.2.1 0) N (fun j => .int (g.1 a j))) := hH.2.1 a _ hs
  intro T hT X
  obtain ⟨vm', X', step⟩ := X.checkcastYes x1 x5 (hK.word hw rfl args) (by rw [hT]; exact hcell) rfl hnm (va_asg _ _) (g := F0 m pc ls ((.ref a :: st : List Value).map (gb_cv Γ))) rfl rfl (by rw [x2]; exact hdg)
  obtain ⟨t, a1, b1⟩ := k p e R s m args below meth c mc ms hx H locs cells slots hH h1 h2 ls hl (T.setVm vm') hT X'
  exact ⟨t, step t a1, b1⟩
end GK
theorem wq_m : Cond.methodLink "java/util/Arrays" 316 gb_clA ∈ lw_tbl := (gb_t4 _ (List.mem_of_getElem? (i := 45) rfl))
theorem wq_sm : Cond.sameMethod "[I" "java/lang/Object" "clone" "()Ljava/lang/Object;" ∈ lw_tbl := (gb_t4 _ (List.mem_of_getElem? (i := 46) rfl))
theorem wq_n : Cond.native gb_clN ∈ lw_tbl := (gb_t4 _ (List.mem_of_getElem? (i := 47) rfl))
theorem wq_i : Cond.instanceMethod gb_clN ∈ lw_tbl := (gb_t4 _ (List.mem_of_getElem? (i := 48) rfl))
theorem wq_s : Cond.selects "[I" gb_clA gb_clN ∈ lw_tbl := (gb_t4 _ (List.mem_of_getElem? (i := 49) rfl))
theorem wq_c : Cond.castable "[I" "java/lang/Cloneable" ∈ lw_tbl := (gb_t4 _ (List.mem_of_getElem? (i := 50) rfl))
theorem wq_l : Cond.classLink "java/util/Arrays" 317 "[I" ∈ lw_tbl := (gb_t4 _ (List.mem_of_getElem? (i := 51) rfl))
set_option maxRecDepth 100000 in
set_option maxHeartbeats 4000000 in
/-- Arrays.copyOf of ints: one cell more -/
theorem t_copyOf {Γ : gb_X} {sh : List gb_Sh} {g : gb_G} {a N n : Nat} (hS : gb_S sh) (hs : sh[a]? = some (.inl (0, N))) (hN : N ≤ 400) (hn : n ≤ 400) : gb_C Γ M_J7_copyOf_59c91 1 1 n sh g [.ref a, .int (Int32.ofNat n)] (fun sh' g' v => ∃ f : Nat → Int32, (∀ j, j < n → j < N → f j = g.1 a j) ∧ sh' = sh ++ [.inl (0, n)] ∧ g' = gb_pa (gb_z g sh.length) sh.length f ∧ v = some (.ref sh.length)) := by
  have ha : a < sh.length := (List.getElem?_eq_some_iff.mp hs).1
  have hna : a ≠ sh.length := by omega
  have hcl : (Int32.ofNat n).toNatClampNeg = n := Int32.toNatClampNeg_ofNat_of_lt (by omega)
  have hclN : (Int32.ofNat N).toNatClampNeg = N := Int32.toNatClampNeg_ofNat_of_lt (by omega)
  have hneg : ¬ (Int32.ofNat n) < 0 := nI_pos (by omega)
  have hnegN : ¬ (Int32.ofNat N) < 0 := nI_pos (by omega)
  refine gb_C.ofF (by decide +kernel) (Nat.le_of_ble_eq_true rfl) ?_
  refine gb_pick (lv' := [(0, .ref a), (1, .int (Int32.ofNat n))]) [0, 1] rfl ?_
  refine gb_iload_n d_J7_copyOf_59c91_0 rfl ?_
  refine gb_aload_n d_J7_copyOf_59c91_1 rfl ?_
  refine gb_alen (Int32.ofNat N) (by decide) hs rfl d_J7_copyOf_59c91_2 ?_
  refine gb_icmp_ne 14 d_J7_copyOf_59c91_3 (by decide) (fun hc => ?_) (fun hc => ?_)
  · refine gb_iload_n d_J7_copyOf_59c91_14 rfl ?_
    refine gb_newarr (t := 0) (N := n) rfl (by decide) wa_0 hneg hcl (by omega) (Nat.le_refl _) (Nat.le_refl _) d_J7_copyOf_59c91_15 ?_
    refine gb_astore_n [(2, .ref sh.length), (0, .ref a), (1, .int (Int32.ofNat n))] d_J7_copyOf_59c91_17 (Nat.le_of_ble_eq_true rfl) rfl ?_
    refine gb_aload_n d_J7_copyOf_59c91_18 rfl ?_
    refine gb_iconst 0 d_J7_copyOf_59c91_19 rfl ?_
    refine gb_aload_n d_J7_copyOf_59c91_20 rfl ?_
    refine gb_iconst 0 d_J7_copyOf_59c91_21 rfl ?_
    refine gb_aload_n d_J7_copyOf_59c91_22 rfl ?_
    have hs2 : (sh ++ [Sum.inl (0, n)])[a]? = some (.inl (0, N)) := by rw [List.getElem?_append_left ha]; exact hs
    have hs3 : (sh ++ [Sum.inl (0, n)] : List gb_Sh)[sh.length]? = some (.inl (0, n)) := by simp
    have hS2 : gb_S (sh ++ [Sum.inl (0, n)]) := fun c x hx => by
      have := hS c x hx
      rw [List.getElem?_append_left (List.getElem?_eq_some_iff.mp this).1]
      exact this
    refine gb_alen (Int32.ofNat N) (by decide) hs2 rfl d_J7_copyOf_59c91_23 ?_
    refine gb_iload_n d_J7_copyOf_59c91_24 rfl ?_
    obtain ⟨k, hk, hkN, hkn, hmin⟩ : ∃ k : Nat, f_J9_min_7cf53 (sh ++ [Sum.inl (0, n)]) (gb_z g sh.length) (Int32.ofNat N) (Int32.ofNat n) = some (gb_z g sh.length, Int32.ofNat k) ∧ k ≤ N ∧ k ≤ n ∧ (∀ j, j < n → j < N → j < k) := by
      unfold f_J9_min_7cf53
      by_cases hlt : Int32.ofNat n < Int32.ofNat N
      · refine ⟨n, by rw [if_pos hlt], ?_, Nat.le_refl _, fun j h1 h2 => h1⟩
        exact Nat.le_of_lt ((nI_ltI (by omega) (by omega)).mp hlt)
      · refine ⟨N, by rw [if_neg hlt], Nat.le_refl _, ?_, fun j h1 h2 => h2⟩
        exact Nat.not_lt.mp (fun q => hlt ((nI_ltI (by omega) (by omega)).mpr q))
    refine gb_cSi (o := (gb_z g sh.length, Int32.ofNat k)) (As := [.int (Int32.ofNat N), .int (Int32.ofNat n)]) (rest := [.int 0, .ref sh.length, .int 0, .ref a]) m_J7_304 (t_J9_min_7cf53 (Γ := Γ) hS2 hk) (Nat.le_of_ble_eq_true rfl) rfl rfl (Nat.le_of_ble_eq_true rfl) d_J7_copyOf_59c91_25 ?_
    have hclk : (Int32.ofNat k).toNatClampNeg = k := Int32.toNatClampNeg_ofNat_of_lt (by omega)
    have h0 : (0 : Int32).toNatClampNeg = 0 := by decide
    refine gb_copy a_J7_150 wa_n wa_s wn_J10 hs2 hs3 (by decide) (by decide) (nI_pos (by omega)) (by rw [h0, hclk]; omega) (by rw [h0, hclk]; omega) (Nat.le_refl _) (Nat.le_of_ble_eq_true rfl) d_J7_copyOf_59c91_28 ?_
    refine gb_aload_n d_J7_copyOf_59c91_31 rfl ?_
    refine gb_aret d_J7_copyOf_59c91_32 rfl (Or.inr ⟨_, rfl⟩) (Or.inr ⟨_, rfl⟩) ⟨_, fun j h1 h2 => ?_, rfl, rfl, rfl⟩
    rw [h0, hclk]
    simp [va_cpy, gb_z, hna, hmin j h1 h2]
  · have hnN : n = N := by
      have := congrArg Int32.toNatClampNeg hc
      rw [hcl, hclN] at this
      exact this
    subst hnN
    refine gb_aload_n d_J7_copyOf_59c91_6 rfl ?_
    refine gb_clone wq_m wq_sm wq_n wq_i wq_s wq_c hs (Nat.le_refl _) (Nat.le_refl _) (Nat.le_refl _) (Nat.le_of_ble_eq_true rfl) d_J7_copyOf_59c91_7 ?_
    refine gb_castI wq_l (N := n) (by simp) d_J7_copyOf_59c91_10 ?_
    exact gb_aret d_J7_copyOf_59c91_13 rfl (Or.inr ⟨_, rfl⟩) (Or.inr ⟨_, rfl⟩) ⟨_, fun j h1 h2 => rfl, rfl, rfl, rfl⟩
