theorem gb_S.app {sh L : List gb_Sh} (hS : gb_S sh) : gb_S (sh ++ L) := fun c x hx => by
  have := hS c x hx
  rw [List.getElem?_append_left (List.getElem?_eq_some_iff.mp this).1]
  exact this
theorem gb_near {sh : List gb_Sh} {g : gb_G} {n k : Nat} (hk : n ≤ k) (hk2 : k ≤ 1000) : f_X10_nearest sh g (Int32.ofNat n) 0 (Int32.ofNat k) = some (g, Int32.ofNat n) := by
  have h1 : f_J9_min_7cf53 sh g (Int32.ofNat k) (Int32.ofNat n) = some (g, Int32.ofNat n) := by
    unfold f_J9_min_7cf53
    by_cases h : Int32.ofNat n < Int32.ofNat k
    · rw [if_pos h]
    · rw [if_neg h]
      have : ¬ n < k := fun q => h ((nI_ltI (by omega) (by omega)).mpr q)
      rw [show k = n by omega]
  have h2 : f_J9_max_7cf53 sh g 0 (Int32.ofNat n) = some (g, Int32.ofNat n) := by
    unfold f_J9_max_7cf53
    by_cases h : (0 : Int32) < Int32.ofNat n
    · rw [if_pos h]
    · rw [if_neg h]
      have : ¬ 0 < n := fun q => h ((nI_ltI (a := 0) (by omega) (by omega)).mpr q)
      rw [show n = 0 by omega]
      rfl
  unfold f_X10_nearest
  rw [h1]
  show gb_bd (f_J9_max_7cf53 sh g 0 (Int32.ofNat n)) _ = _
  rw [h2]
  rfl
set_option maxRecDepth 100000 in
set_option maxHeartbeats 8000000 in
/-- Program(Program) of the reader's program: six cells in all -/
theorem ti_X7_copy {Γ : gb_X} {sh pre : List gb_Sh} {g : gb_G} {c n m : Nat} (hc : pre.length = c) (hsh : sh = pre ++ [.inr (7, [0, 2, 2, 0, 2, 2, 2, 0])]) (hS : gb_S pre) (hn : n ≤ 400) (hm : m ≤ 12) (h0 : g.1 46 0 = Int32.ofNat n) (h3 : g.1 46 3 = Int32.ofNat m) (h7 : g.1 46 7 = 0 ∨ g.1 46 7 = 1) (h46 : 105 ≤ c) : gb_C Γ M_X7_init_ 2 5 861 sh g [.ref c, .ref 46] (fun sh' g' v => sh' = pre ++ [.inr (7, [0, (c + 1) + 3, (c + 2) + 3, 0, (c + 3) + 3, (c + 4) + 3, (c + 5) + 3, 0]), .inl (0, n), .inl (0, n), .inl (0, m), .inl (0, m), .inl (0, 3 * m + 1)] ∧ v = none ∧ (∀ a, a < c → g'.1 a = g.1 a ∧ g'.2.1 a = g.2.1 a ∧ g'.2.2 a = g.2.2 a) ∧ g'.1 c 0 = Int32.ofNat n ∧ g'.1 c 3 = Int32.ofNat m ∧ g'.1 c 7 = g.1 46 7 ∧ (∀ j, j < n → g'.1 (c + 1) j = g.1 47 j) ∧ (∀ j, j < n → g'.1 (c + 2) j = g.1 48 j) ∧ (∀ j, j < m → g'.1 (c + 3) j = g.1 49 j) ∧ (∀ j, j < m → g'.1 (c + 4) j = g.1 50 j) ∧ (∀ j, j < 3 * m + 1 → g'.1 (c + 5) j = g.1 51 j)) := by
  subst hsh
  have hs : ∀ (L : List gb_Sh) (i : Nat) (x : gb_Sh), gb_SH[i]? = some x → (pre ++ L)[i]? = some x := fun L i x hx => (hS.app (L := L)) i x hx
  refine gb_C.of rfl (Nat.le_of_ble_eq_true rfl) ?_
  refine gb_pick (lv' := [(0, .ref c), (1, .ref 46)]) [0, 1] rfl ?_
  refine gb_aload_n d_X7_init__0 rfl ?_
  refine gb_obj o_X7_3 wo_i wo_c (Nat.le_of_ble_eq_true rfl) (Nat.le_of_ble_eq_true rfl) d_X7_init__1 ?_
  refine gb_aload_n d_X7_init__4 rfl ?_
  refine gb_iconst 0 d_X7_init__5 rfl ?_
  refine gb_puti f_X7_9 (fun _ => ⟨rfl, rfl⟩) (gb_at (i := 0) hc rfl) rfl rfl rfl d_X7_init__6 ?_
  refine gb_aload_n d_X7_init__9 rfl ?_
  refine gb_iconst 0 d_X7_init__10 rfl ?_
  refine gb_puti f_X7_15 (fun _ => ⟨rfl, rfl⟩) (gb_at (i := 0) hc rfl) rfl rfl rfl d_X7_init__11 ?_
  refine gb_aload_n d_X7_init__14 rfl ?_
  refine gb_iconst 0 d_X7_init__15 rfl ?_
  refine gb_puti f_X7_18 (fun _ => ⟨rfl, rfl⟩) (gb_at (i := 0) hc rfl) rfl rfl rfl d_X7_init__16 ?_
  obtain ⟨gA, hA⟩ : ∃ z : gb_G, z = gb_pi (gb_pi (gb_pi g (c + 0) 0 0) (c + 0) 3 0) (c + 0) 7 0 := ⟨_, rfl⟩
  have hAo : ∀ a, a < c → gA.1 a = g.1 a ∧ gA.2.1 a = g.2.1 a ∧ gA.2.2 a = g.2.2 a := fun a ha => by
    have : a ≠ c := by omega
    subst hA
    simp [gb_pa, this]
  refine (show gb_J Γ M_X7_init_ 2 _ 5 861 (pre ++ [.inr (7, [0, 2, 2, 0, 2, 2, 2, 0])]) gA 19 [(0, .ref c), (1, .ref 46)] [] → _ from fun h => by rw [hA] at h; exact h) ?_
  clear hA
  refine gb_aload_n d_X7_init__19 rfl ?_
  refine gb_aload_n d_X7_init__20 rfl ?_
  refine gb_geti f_X7_9 (hs _ 46 _ rfl) rfl d_X7_init__21 ?_
  rw [(hAo 46 (by omega)).1, h0]
  refine gb_iconst 0 d_X7_init__24 rfl ?_
  refine gb_sipush 400 d_X7_init__25 rfl ?_
  refine gb_cSNi (o := (gA, Int32.ofNat n)) (As := [.int (Int32.ofNat n), .int 0, .int 400]) (rest := [.ref c]) m_X7_38 (t_X10_nearest (Γ := Γ) hS.app (gb_near (k := 400) hn (by decide))) (Nat.le_of_ble_eq_true rfl) rfl rfl (Nat.le_of_ble_eq_true rfl) d_X7_init__28 ?_
  refine gb_puti f_X7_9 (fun _ => ⟨rfl, rfl⟩) (gb_at (i := 0) hc rfl) rfl rfl rfl d_X7_init__31 ?_
  refine (show gb_J Γ M_X7_init_ 2 _ 5 861 (pre ++ [.inr (7, [0, 2, 2, 0, 2, 2, 2, 0])]) (gb_pi gA (c + 0) 0 (Int32.ofNat n)) 34 [(0, .ref c), (1, .ref 46)] [] → _ from fun h => h) ?_
  refine gb_aload_n d_X7_init__34 rfl ?_
  refine gb_aload_n d_X7_init__35 rfl ?_
  refine gb_geti f_X7_15 (hs _ 46 _ rfl) rfl d_X7_init__36 ?_
  rw [show (gb_pi gA (c + 0) 0 (Int32.ofNat n)).1 46 3 = Int32.ofNat m by rw [← h3, ← (hAo 46 (by omega)).1]; simp [gb_pa, show (46 : Nat) ≠ c by omega]]
  refine gb_iconst 0 d_X7_init__39 rfl ?_
  refine gb_bipush 12 d_X7_init__40 rfl ?_
  refine gb_cSNi (o := (gb_pi gA (c + 0) 0 (Int32.ofNat n), Int32.ofNat m)) (As := [.int (Int32.ofNat m), .int 0, .int 12]) (rest := [.ref c]) m_X7_38 (t_X10_nearest (Γ := Γ) hS.app (gb_near (k := 12) hm (by decide))) (Nat.le_of_ble_eq_true rfl) rfl rfl (Nat.le_of_ble_eq_true rfl) d_X7_init__42 ?_
  refine gb_puti f_X7_15 (fun _ => ⟨rfl, rfl⟩) (gb_at (i := 0) hc rfl) rfl rfl rfl d_X7_init__45 ?_
  obtain ⟨g0, hg0⟩ : ∃ z : gb_G, z = gb_pi (gb_pi gA (c + 0) 0 (Int32.ofNat n)) (c + 0) 3 (Int32.ofNat m) := ⟨_, rfl⟩
  have o0 : ∀ a, a < c → g0.1 a = g.1 a ∧ g0.2.1 a = g.2.1 a ∧ g0.2.2 a = g.2.2 a := fun a ha => by
    have : a ≠ c := by omega
    rw [← (hAo a ha).1, ← (hAo a ha).2.1, ← (hAo a ha).2.2]
    subst hg0
    simp [gb_pa, this]
  have s0 : g0.1 c 0 = Int32.ofNat n := by subst hg0; simp [gb_pa, upd]
  have c0 : g0.1 c 3 = Int32.ofNat m := by subst hg0; simp [gb_pa, upd]
  refine (show gb_J Γ M_X7_init_ 2 _ 5 861 (pre ++ [.inr (7, [0, 2, 2, 0, 2, 2, 2, 0])]) g0 48 [(0, .ref c), (1, .ref 46)] [] → _ from fun h => by rw [hg0] at h; exact h) ?_
  clear hg0 hAo
  refine gb_aload_n d_X7_init__48 rfl ?_
  refine gb_aload_n d_X7_init__49 rfl ?_
  refine gb_getr (r := 47) f_X7_22 (hs _ 46 _ rfl) rfl d_X7_init__50 ?_
  refine gb_aload_n d_X7_init__53 rfl ?_
  refine gb_geti f_X7_9 (gb_at (i := 0) hc rfl) rfl d_X7_init__54 ?_
  rw [s0]
  refine gb_cS (n := 2) (kc' := 1) (ks' := n) (d' := 1) (As := [.ref 47, .int (Int32.ofNat n)]) (rest := [.ref c]) m_X7_42 (t_copyOf (Γ := Γ) (N := 400) hS.app (hs _ 47 _ rfl) (by omega) (by omega)) (Nat.le_of_ble_eq_true rfl) (by omega) (by omega) rfl rfl (Nat.le_of_ble_eq_true rfl) d_X7_init__57 (fun sh' g' v hq => ?_)
  obtain ⟨f0, hf0, rfl, rfl, rfl⟩ := hq
  rw [List.append_assoc, List.length_append, hc]
  obtain ⟨g1, hg1⟩ : ∃ z : gb_G, z = gb_pa (gb_z g0 (c + 1)) (c + 1) f0 := ⟨_, rfl⟩
  have o1 : ∀ a, a < c → g1.1 a = g.1 a ∧ g1.2.1 a = g.2.1 a ∧ g1.2.2 a = g.2.2 a := fun a ha => by
    have : a ≠ c + 1 := by omega
    rw [← (o0 a ha).1, ← (o0 a ha).2.1, ← (o0 a ha).2.2]
    subst hg1
    simp [gb_pa, gb_z, this]
  have s1 : g1.1 c 0 = Int32.ofNat n := by rw [← s0]; subst hg1; simp [gb_pa, gb_z]
  have c1 : g1.1 c 3 = Int32.ofNat m := by rw [← c0]; subst hg1; simp [gb_pa, gb_z]
  have k0 : ∀ j, j < n → g1.1 (c + 1) j = g.1 47 j := fun j hj => by
    rw [← (o0 47 (by omega)).1, ← hf0 j hj (by omega)]
    subst hg1
    simp [gb_pa]
  refine (show gb_J Γ M_X7_init_ 2 _ _ _ (pre ++ [.inr (7, [0, 2, 2, 0, 2, 2, 2, 0]), .inl (0, n)]) g1 60 [(0, .ref c), (1, .ref 46)] [.ref (c + 1), .ref (c + 0)] → _ from fun h => by rw [hg1] at h; exact h) ?_
  clear hg1
  refine gb_putrP (i := 0) hc rfl f_X7_22 (fun _ => ⟨rfl, rfl⟩) (Nat.le_of_ble_eq_true rfl) (fun _ => rfl) (fun _ => rfl) d_X7_init__60 ?_
  show gb_J Γ M_X7_init_ 2 _ _ _ (pre ++ [.inr (7, [0, (c + 1) + 3, 2, 0, 2, 2, 2, 0]), .inl (0, n)]) g1 _ [(0, .ref c), (1, .ref 46)] []
  refine gb_aload_n d_X7_init__63 rfl ?_
  refine gb_aload_n d_X7_init__64 rfl ?_
  refine gb_getr (r := 48) f_X7_26 (hs _ 46 _ rfl) rfl d_X7_init__65 ?_
  refine gb_aload_n d_X7_init__68 rfl ?_
  refine gb_geti f_X7_9 (gb_at (i := 0) hc rfl) rfl d_X7_init__69 ?_
  rw [s1]
  refine gb_cS (n := 2) (kc' := 1) (ks' := n) (d' := 1) (As := [.ref 48, .int (Int32.ofNat n)]) (rest := [.ref c]) m_X7_42 (t_copyOf (Γ := Γ) (N := 400) hS.app (hs _ 48 _ rfl) (by omega) (by omega)) (Nat.le_of_ble_eq_true rfl) (by omega) (by omega) rfl rfl (Nat.le_of_ble_eq_true rfl) d_X7_init__72 (fun sh' g' v hq => ?_)
  obtain ⟨f1, hf1, rfl, rfl, rfl⟩ := hq
  rw [List.append_assoc, List.length_append, hc]
  obtain ⟨g2, hg2⟩ : ∃ z : gb_G, z = gb_pa (gb_z g1 (c + 2)) (c + 2) f1 := ⟨_, rfl⟩
  have o2 : ∀ a, a < c → g2.1 a = g.1 a ∧ g2.2.1 a = g.2.1 a ∧ g2.2.2 a = g.2.2 a := fun a ha => by
    have : a ≠ c + 2 := by omega
    rw [← (o1 a ha).1, ← (o1 a ha).2.1, ← (o1 a ha).2.2]
    subst hg2
    simp [gb_pa, gb_z, this]
  have s2 : g2.1 c 0 = Int32.ofNat n := by rw [← s1]; subst hg2; simp [gb_pa, gb_z]
  have c2 : g2.1 c 3 = Int32.ofNat m := by rw [← c1]; subst hg2; simp [gb_pa, gb_z]
  have k1 : ∀ j, j < n → g2.1 (c + 2) j = g.1 48 j := fun j hj => by
    rw [← (o1 48 (by omega)).1, ← hf1 j hj (by omega)]
    subst hg2
    simp [gb_pa]
  have k0 : ∀ j, j < n → g2.1 (c + 1) j = g.1 47 j := fun j hj => by
    rw [← k0 j hj]
    subst hg2
    simp [gb_pa, gb_z]
  refine (show gb_J Γ M_X7_init_ 2 _ _ _ (pre ++ [.inr (7, [0, (c + 1) + 3, 2, 0, 2, 2, 2, 0]), .inl (0, n), .inl (0, n)]) g2 75 [(0, .ref c), (1, .ref 46)] [.ref (c + 2), .ref (c + 0)] → _ from fun h => by rw [hg2] at h; exact h) ?_
  clear hg2
  refine gb_putrP (i := 0) hc rfl f_X7_26 (fun _ => ⟨rfl, rfl⟩) (Nat.le_of_ble_eq_true rfl) (fun _ => rfl) (fun _ => rfl) d_X7_init__75 ?_
  show gb_J Γ M_X7_init_ 2 _ _ _ (pre ++ [.inr (7, [0, (c + 1) + 3, (c + 2) + 3, 0, 2, 2, 2, 0]), .inl (0, n), .inl (0, n)]) g2 _ [(0, .ref c), (1, .ref 46)] []
  refine gb_aload_n d_X7_init__78 rfl ?_
  refine gb_aload_n d_X7_init__79 rfl ?_
  refine gb_getr (r := 49) f_X7_29 (hs _ 46 _ rfl) rfl d_X7_init__80 ?_
  refine gb_aload_n d_X7_init__83 rfl ?_
  refine gb_geti f_X7_15 (gb_at (i := 0) hc rfl) rfl d_X7_init__84 ?_
  rw [c2]
  refine gb_cS (n := 2) (kc' := 1) (ks' := m) (d' := 1) (As := [.ref 49, .int (Int32.ofNat m)]) (rest := [.ref c]) m_X7_42 (t_copyOf (Γ := Γ) (N := 12) hS.app (hs _ 49 _ rfl) (by omega) (by omega)) (Nat.le_of_ble_eq_true rfl) (by omega) (by omega) rfl rfl (Nat.le_of_ble_eq_true rfl) d_X7_init__87 (fun sh' g' v hq => ?_)
  obtain ⟨f2, hf2, rfl, rfl, rfl⟩ := hq
  rw [List.append_assoc, List.length_append, hc]
  obtain ⟨g3, hg3⟩ : ∃ z : gb_G, z = gb_pa (gb_z g2 (c + 3)) (c + 3) f2 := ⟨_, rfl⟩
  have o3 : ∀ a, a < c → g3.1 a = g.1 a ∧ g3.2.1 a = g.2.1 a ∧ g3.2.2 a = g.2.2 a := fun a ha => by
    have : a ≠ c + 3 := by omega
    rw [← (o2 a ha).1, ← (o2 a ha).2.1, ← (o2 a ha).2.2]
    subst hg3
    simp [gb_pa, gb_z, this]
  have s3 : g3.1 c 0 = Int32.ofNat n := by rw [← s2]; subst hg3; simp [gb_pa, gb_z]
  have c3 : g3.1 c 3 = Int32.ofNat m := by rw [← c2]; subst hg3; simp [gb_pa, gb_z]
  have k2 : ∀ j, j < m → g3.1 (c + 3) j = g.1 49 j := fun j hj => by
    rw [← (o2 49 (by omega)).1, ← hf2 j hj (by omega)]
    subst hg3
    simp [gb_pa]
  have k0 : ∀ j, j < n → g3.1 (c + 1) j = g.1 47 j := fun j hj => by
    rw [← k0 j hj]
    subst hg3
    simp [gb_pa, gb_z]
  have k1 : ∀ j, j < n → g3.1 (c + 2) j = g.1 48 j := fun j hj => by
    rw [← k1 j hj]
    subst hg3
    simp [gb_pa, gb_z]
  refine (show gb_J Γ M_X7_init_ 2 _ _ _ (pre ++ [.inr (7, [0, (c + 1) + 3, (c + 2) + 3, 0, 2, 2, 2, 0]), .inl (0, n), .inl (0, n), .inl (0, m)]) g3 90 [(0, .ref c), (1, .ref 46)] [.ref (c + 3), .ref (c + 0)] → _ from fun h => by rw [hg3] at h; exact h) ?_
  clear hg3
  refine gb_putrP (i := 0) hc rfl f_X7_29 (fun _ => ⟨rfl, rfl⟩) (Nat.le_of_ble_eq_true rfl) (fun _ => rfl) (fun _ => rfl) d_X7_init__90 ?_
  show gb_J Γ M_X7_init_ 2 _ _ _ (pre ++ [.inr (7, [0, (c + 1) + 3, (c + 2) + 3, 0, (c + 3) + 3, 2, 2, 0]), .inl (0, n), .inl (0, n), .inl (0, m)]) g3 _ [(0, .ref c), (1, .ref 46)] []
  refine gb_aload_n d_X7_init__93 rfl ?_
  refine gb_aload_n d_X7_init__94 rfl ?_
  refine gb_getr (r := 50) f_X7_32 (hs _ 46 _ rfl) rfl d_X7_init__95 ?_
  refine gb_aload_n d_X7_init__98 rfl ?_
  refine gb_geti f_X7_15 (gb_at (i := 0) hc rfl) rfl d_X7_init__99 ?_
  rw [c3]
  refine gb_cS (n := 2) (kc' := 1) (ks' := m) (d' := 1) (As := [.ref 50, .int (Int32.ofNat m)]) (rest := [.ref c]) m_X7_42 (t_copyOf (Γ := Γ) (N := 12) hS.app (hs _ 50 _ rfl) (by omega) (by omega)) (Nat.le_of_ble_eq_true rfl) (by omega) (by omega) rfl rfl (Nat.le_of_ble_eq_true rfl) d_X7_init__102 (fun sh' g' v hq => ?_)
  obtain ⟨f3, hf3, rfl, rfl, rfl⟩ := hq
  rw [List.append_assoc, List.length_append, hc]
  obtain ⟨g4, hg4⟩ : ∃ z : gb_G, z = gb_pa (gb_z g3 (c + 4)) (c + 4) f3 := ⟨_, rfl⟩
  have o4 : ∀ a, a < c → g4.1 a = g.1 a ∧ g4.2.1 a = g.2.1 a ∧ g4.2.2 a = g.2.2 a := fun a ha => by
    have : a ≠ c + 4 := by omega
    rw [← (o3 a ha).1, ← (o3 a ha).2.1, ← (o3 a ha).2.2]
    subst hg4
    simp [gb_pa, gb_z, this]
  have s4 : g4.1 c 0 = Int32.ofNat n := by rw [← s3]; subst hg4; simp [gb_pa, gb_z]
  have c4 : g4.1 c 3 = Int32.ofNat m := by rw [← c3]; subst hg4; simp [gb_pa, gb_z]
  have k3 : ∀ j, j < m → g4.1 (c + 4) j = g.1 50 j := fun j hj => by
    rw [← (o3 50 (by omega)).1, ← hf3 j hj (by omega)]
    subst hg4
    simp [gb_pa]
  have k0 : ∀ j, j < n → g4.1 (c + 1) j = g.1 47 j := fun j hj => by
    rw [← k0 j hj]
    subst hg4
    simp [gb_pa, gb_z]
  have k1 : ∀ j, j < n → g4.1 (c + 2) j = g.1 48 j := fun j hj => by
    rw [← k1 j hj]
    subst hg4
    simp [gb_pa, gb_z]
  have k2 : ∀ j, j < m → g4.1 (c + 3) j = g.1 49 j := fun j hj => by
    rw [← k2 j hj]
    subst hg4
    simp [gb_pa, gb_z]
  refine (show gb_J Γ M_X7_init_ 2 _ _ _ (pre ++ [.inr (7, [0, (c + 1) + 3, (c + 2) + 3, 0, (c + 3) + 3, 2, 2, 0]), .inl (0, n), .inl (0, n), .inl (0, m), .inl (0, m)]) g4 105 [(0, .ref c), (1, .ref 46)] [.ref (c + 4), .ref (c + 0)] → _ from fun h => by rw [hg4] at h; exact h) ?_
  clear hg4
  refine gb_putrP (i := 0) hc rfl f_X7_32 (fun _ => ⟨rfl, rfl⟩) (Nat.le_of_ble_eq_true rfl) (fun _ => rfl) (fun _ => rfl) d_X7_init__105 ?_
  show gb_J Γ M_X7_init_ 2 _ _ _ (pre ++ [.inr (7, [0, (c + 1) + 3, (c + 2) + 3, 0, (c + 3) + 3, (c + 4) + 3, 2, 0]), .inl (0, n), .inl (0, n), .inl (0, m), .inl (0, m)]) g4 _ [(0, .ref c), (1, .ref 46)] []
  refine gb_aload_n d_X7_init__108 rfl ?_
  refine gb_aload_n d_X7_init__109 rfl ?_
  refine gb_getr (r := 51) f_X7_35 (hs _ 46 _ rfl) rfl d_X7_init__110 ?_
  refine gb_aload_n d_X7_init__113 rfl ?_
  refine gb_geti f_X7_15 (gb_at (i := 0) hc rfl) rfl d_X7_init__114 ?_
  rw [c4]
  refine gb_iconst 3 d_X7_init__117 rfl ?_
  refine gb_imul d_X7_init__118 ?_
  refine gb_iconst 1 d_X7_init__119 rfl ?_
  refine gb_iadd d_X7_init__120 ?_
  rw [show Int32.ofNat m * 3 + 1 = Int32.ofNat (3 * m + 1) by
    have : ∀ q : Fin 13, Int32.ofNat q.val * 3 + 1 = Int32.ofNat (3 * q.val + 1) := by decide
    exact this ⟨m, by omega⟩]
  refine gb_cS (n := 2) (kc' := 1) (ks' := (3 * m + 1)) (d' := 1) (As := [.ref 51, .int (Int32.ofNat (3 * m + 1))]) (rest := [.ref c]) m_X7_42 (t_copyOf (Γ := Γ) (N := 37) hS.app (hs _ 51 _ rfl) (by omega) (by omega)) (Nat.le_of_ble_eq_true rfl) (by omega) (by omega) rfl rfl (Nat.le_of_ble_eq_true rfl) d_X7_init__121 (fun sh' g' v hq => ?_)
  obtain ⟨f4, hf4, rfl, rfl, rfl⟩ := hq
  rw [List.append_assoc, List.length_append, hc]
  obtain ⟨g5, hg5⟩ : ∃ z : gb_G, z = gb_pa (gb_z g4 (c + 5)) (c + 5) f4 := ⟨_, rfl⟩
  have o5 : ∀ a, a < c → g5.1 a = g.1 a ∧ g5.2.1 a = g.2.1 a ∧ g5.2.2 a = g.2.2 a := fun a ha => by
    have : a ≠ c + 5 := by omega
    rw [← (o4 a ha).1, ← (o4 a ha).2.1, ← (o4 a ha).2.2]
    subst hg5
    simp [gb_pa, gb_z, this]
  have s5 : g5.1 c 0 = Int32.ofNat n := by rw [← s4]; subst hg5; simp [gb_pa, gb_z]
  have c5 : g5.1 c 3 = Int32.ofNat m := by rw [← c4]; subst hg5; simp [gb_pa, gb_z]
  have k4 : ∀ j, j < (3 * m + 1) → g5.1 (c + 5) j = g.1 51 j := fun j hj => by
    rw [← (o4 51 (by omega)).1, ← hf4 j hj (by omega)]
    subst hg5
    simp [gb_pa]
  have k0 : ∀ j, j < n → g5.1 (c + 1) j = g.1 47 j := fun j hj => by
    rw [← k0 j hj]
    subst hg5
    simp [gb_pa, gb_z]
  have k1 : ∀ j, j < n → g5.1 (c + 2) j = g.1 48 j := fun j hj => by
    rw [← k1 j hj]
    subst hg5
    simp [gb_pa, gb_z]
  have k2 : ∀ j, j < m → g5.1 (c + 3) j = g.1 49 j := fun j hj => by
    rw [← k2 j hj]
    subst hg5
    simp [gb_pa, gb_z]
  have k3 : ∀ j, j < m → g5.1 (c + 4) j = g.1 50 j := fun j hj => by
    rw [← k3 j hj]
    subst hg5
    simp [gb_pa, gb_z]
  refine (show gb_J Γ M_X7_init_ 2 _ _ _ (pre ++ [.inr (7, [0, (c + 1) + 3, (c + 2) + 3, 0, (c + 3) + 3, (c + 4) + 3, 2, 0]), .inl (0, n), .inl (0, n), .inl (0, m), .inl (0, m), .inl (0, (3 * m + 1))]) g5 124 [(0, .ref c), (1, .ref 46)] [.ref (c + 5), .ref (c + 0)] → _ from fun h => by rw [hg5] at h; exact h) ?_
  clear hg5
  refine gb_putrP (i := 0) hc rfl f_X7_35 (fun _ => ⟨rfl, rfl⟩) (Nat.le_of_ble_eq_true rfl) (fun _ => rfl) (fun _ => rfl) d_X7_init__124 ?_
  show gb_J Γ M_X7_init_ 2 _ _ _ (pre ++ [.inr (7, [0, (c + 1) + 3, (c + 2) + 3, 0, (c + 3) + 3, (c + 4) + 3, (c + 5) + 3, 0]), .inl (0, n), .inl (0, n), .inl (0, m), .inl (0, m), .inl (0, (3 * m + 1))]) g5 _ [(0, .ref c), (1, .ref 46)] []
  refine gb_aload_n d_X7_init__127 rfl ?_
  refine gb_aload_n d_X7_init__128 rfl ?_
  refine gb_geti f_X7_18 (hs _ 46 _ rfl) rfl d_X7_init__129 ?_
  rw [(o5 46 (by omega)).1]
  refine gb_puti f_X7_18 (fun _ => ⟨rfl, rfl⟩) (gb_at (i := 0) hc rfl) rfl (by rcases h7 with q | q <;> rw [q] <;> rfl) (by rcases h7 with q | q <;> rw [q] <;> rfl) d_X7_init__132 ?_
  refine gb_vret d_X7_init__135 rfl ⟨rfl, rfl, fun a ha => ?_, ?_, ?_, ?_, fun j hj => ?_, fun j hj => ?_, fun j hj => ?_, fun j hj => ?_, fun j hj => ?_⟩
  · have : a ≠ c := by omega
    rw [← (o5 a ha).1, ← (o5 a ha).2.1, ← (o5 a ha).2.2]
    simp [gb_pa, this]
  · rw [← s5]; simp [gb_pa, upd]
  · rw [← c5]; simp [gb_pa, upd]
  · simp [gb_pa, upd]
  · rw [← k0 j hj]; simp [gb_pa]
  · rw [← k1 j hj]; simp [gb_pa]
  · rw [← k2 j hj]; simp [gb_pa]
  · rw [← k3 j hj]; simp [gb_pa]
  · rw [← k4 j hj]; simp [gb_pa]
