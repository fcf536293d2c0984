theorem gb_J.more {Γ : gb_X} {M : gb_M} {d : Nat} {Q : gb_P} {kc ks : Nat} {sh : List gb_Sh} {g : gb_G} {pc : Nat} {lv : List (Nat × Value)} {st : List Value} (h : gb_J Γ M d Q 0 0 sh g pc lv st) : gb_J Γ M d Q kc ks sh g pc lv st :=
  fun p e R s m args below meth c mc ms hx H locs cells slots hH h1 h2 ls hl => h p e R s m args below meth c mc ms hx H locs cells slots hH (by omega) (by omega) ls hl
set_option maxRecDepth 100000 in
set_option maxHeartbeats 4000000 in
/-- law() that finds no room -/
theorem t_X10_law_full {Γ : gb_X} {sh : List gb_Sh} {g : gb_G} {out : gb_G × Int32} (hS : gb_S sh) (hfull : ¬ g.1 1 7 < 6) (h : f_X10_refuse sh (gb_pi g 43 1 0) (-5) = some out) : gb_C Γ M_X10_law 483 6 869 sh g [.ref 0] (gb_Ri sh out) := by
  refine gb_C.of rfl (Nat.le_of_ble_eq_true rfl) ?_
  refine gb_pick (lv' := [(0, .ref 0)]) [0] rfl ?_
  refine gb_aload_n d_X10_law_0 rfl ?_
  refine gb_getr (r := 1) f_X10_14 (hS 0 _ rfl) rfl d_X10_law_1 ?_
  refine gb_geti f_X10_185 (hS 1 _ rfl) rfl d_X10_law_4 ?_
  refine gb_bipush 6 d_X10_law_7 rfl ?_
  refine gb_icmp_lt 27 d_X10_law_9 (by decide) (fun hc => absurd hc hfull) (fun hc => ?_)
  refine gb_aload_n d_X10_law_12 rfl ?_
  refine gb_getr (r := 43) f_X10_45 (hS 0 _ rfl) rfl d_X10_law_13 ?_
  refine gb_iconst 0 d_X10_law_16 rfl ?_
  refine gb_puti f_X10_172 (fun h => nomatch h) (hS 43 _ rfl) rfl rfl rfl d_X10_law_17 ?_
  refine gb_aload_n d_X10_law_20 rfl ?_
  refine gb_bipush (-5) d_X10_law_21 rfl ?_
  refine gb_cVi (As := [.int (-5)]) (rest := []) m_X10_119 (t_X10_refuse (Γ := Γ) hS h) (hS 0 _ rfl) rfl (Nat.le_of_ble_eq_true rfl) rfl rfl (Nat.le_of_ble_eq_true rfl) d_X10_law_23 ?_
  exact gb_iret d_X10_law_26 rfl ⟨rfl, rfl, rfl⟩
set_option maxRecDepth 100000 in
set_option maxHeartbeats 4000000 in
/-- law() of a TEXT that can't be -/
theorem t_X10_law_bad {Γ : gb_X} {sh : List gb_Sh} {g : gb_G} {r out : gb_G × Int32} (hS : gb_S sh) (hlt : g.1 1 7 < 6) (hr : f_X8_read sh g 0 = some r) (hb : ¬ r.2 = -1) (h : f_X10_refuse sh (gb_pi r.1 0 15 r.2) (-6) = some out) : gb_C Γ M_X10_law 483 6 869 sh g [.ref 0] (gb_Ri sh out) := by
  refine gb_C.of rfl (Nat.le_of_ble_eq_true rfl) ?_
  refine gb_pick (lv' := [(0, .ref 0)]) [0] rfl ?_
  refine gb_aload_n d_X10_law_0 rfl ?_
  refine gb_getr (r := 1) f_X10_14 (hS 0 _ rfl) rfl d_X10_law_1 ?_
  refine gb_geti f_X10_185 (hS 1 _ rfl) rfl d_X10_law_4 ?_
  refine gb_bipush 6 d_X10_law_7 rfl ?_
  refine gb_icmp_lt 27 d_X10_law_9 (by decide) (fun hz => ?_) (fun hz => absurd hlt hz)
  refine gb_aload_n d_X10_law_27 rfl ?_
  refine gb_aload_n d_X10_law_28 rfl ?_
  refine gb_getr (r := 45) f_X10_54 (hS 0 _ rfl) rfl d_X10_law_29 ?_
  refine gb_iconst 0 d_X10_law_32 rfl ?_
  refine gb_cVi (As := [.int 0]) (rest := [.ref 0]) m_X10_188 (t_X8_read (Γ := Γ) hS hr) (hS 45 _ rfl) rfl (Nat.le_of_ble_eq_true rfl) rfl rfl (Nat.le_of_ble_eq_true rfl) d_X10_law_33 ?_
  refine gb_puti f_X10_98 (fun h => nomatch h) (hS 0 _ rfl) rfl rfl rfl d_X10_law_36 ?_
  refine gb_aload_n d_X10_law_39 rfl ?_
  refine gb_geti f_X10_98 (hS 0 _ rfl) rfl d_X10_law_40 ?_
  rw [show (gb_pi r.1 0 15 r.2).1 0 15 = r.2 by simp [gb_pa, upd]]
  refine gb_iconst (-1) d_X10_law_43 rfl ?_
  refine gb_icmp_eq 54 d_X10_law_44 (by decide) (fun hc => absurd hc hb) (fun hc => ?_)
  refine gb_aload_n d_X10_law_47 rfl ?_
  refine gb_bipush (-6) d_X10_law_48 rfl ?_
  refine gb_cVi (As := [.int (-6)]) (rest := []) m_X10_119 (t_X10_refuse (Γ := Γ) hS h) (hS 0 _ rfl) rfl (Nat.le_of_ble_eq_true rfl) rfl rfl (Nat.le_of_ble_eq_true rfl) d_X10_law_50 ?_
  exact gb_iret d_X10_law_53 rfl ⟨rfl, rfl, rfl⟩
/-- what the new LAW's cells hold -/
def gb_newlaw (r : gb_G × Int32) (c n m : Nat) (g2 : gb_G) : Prop := (∀ a, a < c → g2.1 a = (gb_pi r.1 0 15 r.2).1 a ∧ g2.2.1 a = r.1.2.1 a ∧ g2.2.2 a = r.1.2.2 a) ∧ g2.1 c 0 = Int32.ofNat n ∧ g2.1 c 3 = Int32.ofNat m ∧ g2.1 c 7 = r.1.1 46 7 ∧ (∀ j, j < n → g2.1 (c + 1) j = r.1.1 47 j) ∧ (∀ j, j < n → g2.1 (c + 2) j = r.1.1 48 j) ∧ (∀ j, j < m → g2.1 (c + 3) j = r.1.1 49 j) ∧ (∀ j, j < m → g2.1 (c + 4) j = r.1.1 50 j) ∧ (∀ j, j < 3 * m + 1 → g2.1 (c + 5) j = r.1.1 51 j)
def gb_lawcells (c n m : Nat) : List gb_Sh := [.inr (7, [0, (c + 1) + 3, (c + 2) + 3, 0, (c + 3) + 3, (c + 4) + 3, (c + 5) + 3, 0]), .inl (0, n), .inl (0, n), .inl (0, m), .inl (0, m), .inl (0, 3 * m + 1)]
theorem gb_enact {sh : List gb_Sh} {g2 : gb_G} {c k : Nat} (hk : k < 6) (h : g2.1 1 7 = Int32.ofNat k) : f_X0_enact sh g2 1 c = some (gb_pr (gb_pi g2 1 7 (Int32.ofNat (k + 1))) 6 k (some c), Int32.ofNat k) := by
  have h1 : Int32.ofNat k + 1 = Int32.ofNat (k + 1) := by
    have : ∀ q : Fin 6, Int32.ofNat q.val + 1 = Int32.ofNat (q.val + 1) := by decide
    exact this ⟨k, hk⟩
  have h2 : f_J9_min_7cf53 sh g2 6 (Int32.ofNat (k + 1)) = some (g2, Int32.ofNat (k + 1)) := by
    unfold f_J9_min_7cf53
    by_cases q : Int32.ofNat (k + 1) < 6
    · rw [if_pos q]
    · rw [if_neg q]
      have : ¬ k + 1 < 6 := fun z => q ((nI_ltI (b := 6) (by omega) (by decide)).mpr z)
      rw [show k = 5 by omega]
      rfl
  have h3 : Int32.ofNat (k + 1) - 1 = Int32.ofNat k := by
    have : ∀ q : Fin 6, Int32.ofNat (q.val + 1) - 1 = Int32.ofNat q.val := by decide
    exact this ⟨k, hk⟩
  have h4 : (Int32.ofNat k).toNatClampNeg = k := Int32.toNatClampNeg_ofNat_of_lt (by omega)
  have e1 : (gb_pi g2 1 7 (Int32.ofNat (k + 1))).1 1 7 = Int32.ofNat (k + 1) := by simp [gb_pa, upd]
  unfold f_X0_enact
  rw [h, h1, h2]
  simp only [gb_bd, gb_let]
  rw [e1, h3, h4]
  unfold gb_ck
  rw [if_pos (show ¬ (Int32.ofNat k < 0 ∨ 6 ≤ (Int32.ofNat k).toNatClampNeg) by
    rw [h4]
    intro z
    rcases z with z | z
    · exact nI_pos (n := k) (by omega) z
    · omega)]
  rw [show (gb_pr (gb_pi g2 1 7 (Int32.ofNat (k + 1))) (1 + 5) k (some c)).1 1 7 = Int32.ofNat (k + 1) from e1, h3]
set_option maxRecDepth 100000 in
set_option maxHeartbeats 4000000 in
/-- law() of a TEXT that can be: six cells more -/
theorem t_X10_law_new {Γ : gb_X} {sh : List gb_Sh} {g : gb_G} {r : gb_G × Int32} {c n m k : Nat} (hS : gb_S sh) (hc : sh.length = c) (h105 : 105 ≤ c) (hlt : g.1 1 7 < 6) (hr : f_X8_read sh g 0 = some r) (hb : r.2 = -1) (hn : n ≤ 400) (hm : m ≤ 12) (hk : k < 6) (h0 : r.1.1 46 0 = Int32.ofNat n) (h3 : r.1.1 46 3 = Int32.ofNat m) (h7 : r.1.1 46 7 = 0 ∨ r.1.1 46 7 = 1) (h17 : r.1.1 1 7 = Int32.ofNat k) : gb_C Γ M_X10_law 483 6 869 sh g [.ref 0] (fun sh' g' v => ∃ g2 : gb_G, sh' = sh ++ gb_lawcells c n m ∧ gb_newlaw r c n m g2 ∧ g' = gb_pi (gb_pr (gb_pi g2 1 7 (Int32.ofNat (k + 1))) 6 k (some c)) 0 18 0 ∧ v = some (.int (Int32.ofNat k))) := by
  refine gb_C.of rfl (Nat.le_of_ble_eq_true rfl) ?_
  refine gb_pick (lv' := [(0, .ref 0)]) [0] rfl ?_
  refine gb_aload_n d_X10_law_0 rfl ?_
  refine gb_getr (r := 1) f_X10_14 (hS 0 _ rfl) rfl d_X10_law_1 ?_
  refine gb_geti f_X10_185 (hS 1 _ rfl) rfl d_X10_law_4 ?_
  refine gb_bipush 6 d_X10_law_7 rfl ?_
  refine gb_icmp_lt 27 d_X10_law_9 (by decide) (fun hz => ?_) (fun hz => absurd hlt hz)
  refine gb_aload_n d_X10_law_27 rfl ?_
  refine gb_aload_n d_X10_law_28 rfl ?_
  refine gb_getr (r := 45) f_X10_54 (hS 0 _ rfl) rfl d_X10_law_29 ?_
  refine gb_iconst 0 d_X10_law_32 rfl ?_
  refine gb_cVi (As := [.int 0]) (rest := [.ref 0]) m_X10_188 (t_X8_read (Γ := Γ) hS hr) (hS 45 _ rfl) rfl (Nat.le_of_ble_eq_true rfl) rfl rfl (Nat.le_of_ble_eq_true rfl) d_X10_law_33 ?_
  refine gb_puti f_X10_98 (fun h => nomatch h) (hS 0 _ rfl) rfl rfl rfl d_X10_law_36 ?_
  refine gb_aload_n d_X10_law_39 rfl ?_
  refine gb_geti f_X10_98 (hS 0 _ rfl) rfl d_X10_law_40 ?_
  rw [show (gb_pi r.1 0 15 r.2).1 0 15 = r.2 by simp [gb_pa, upd]]
  refine gb_iconst (-1) d_X10_law_43 rfl ?_
  refine gb_icmp_eq 54 d_X10_law_44 (by decide) (fun hz => ?_) (fun hz => absurd hb hz)
  refine gb_aload_n d_X10_law_54 rfl ?_
  refine gb_aload_n d_X10_law_55 rfl ?_
  refine gb_getr (r := 1) f_X10_14 (hS 0 _ rfl) rfl d_X10_law_56 ?_
  refine gb_new n_X10_191 (Nat.le_of_ble_eq_true rfl) (Nat.le_of_ble_eq_true rfl) d_X10_law_59 ?_
  rw [hc]
  obtain ⟨g1, hg1⟩ : ∃ z : gb_G, z = gb_z (gb_pi r.1 0 15 r.2) c := ⟨_, rfl⟩
  rw [← hg1]
  have hS2 : gb_S (sh ++ [.inr (7, [0, 2, 2, 0, 2, 2, 2, 0])]) := hS.app
  have hg1o : ∀ a, a < c → g1.1 a = (gb_pi r.1 0 15 r.2).1 a ∧ g1.2.1 a = r.1.2.1 a ∧ g1.2.2 a = r.1.2.2 a := fun a ha => by
    have : a ≠ c := by omega
    subst hg1
    simp [gb_z, gb_pa, this]
  have hg46 : ∀ a, 1 ≤ a → a < c → g1.1 a = r.1.1 a := fun a h1 h2 => by
    rw [(hg1o a h2).1]
    simp [gb_pa, show a ≠ 0 by omega]
  refine gb_dup d_X10_law_62 rfl ?_
  refine gb_aload_n d_X10_law_63 rfl ?_
  refine gb_getr (r := 45) f_X10_54 (hS2 0 _ rfl) rfl d_X10_law_64 ?_
  refine gb_getr (r := 46) f_X10_193 (hS2 45 _ rfl) rfl d_X10_law_67 ?_
  refine gb_cI (n := 1) (As := [.ref 46]) (rest := [.ref c, .ref 1, .ref 0]) m_X10_197 (ti_X7_copy (Γ := Γ) (n := n) (m := m) hc rfl hS hn hm (by rw [hg46 46 (by omega) (by omega)]; exact h0) (by rw [hg46 46 (by omega) (by omega)]; exact h3) (by rw [hg46 46 (by omega) (by omega)]; exact h7) h105) (Nat.le_of_ble_eq_true rfl) (Nat.le_of_ble_eq_true rfl) (Nat.le_of_ble_eq_true rfl) rfl rfl (Nat.le_of_ble_eq_true rfl) d_X10_law_70 (fun sh' g2 v hq => ?_)
  obtain ⟨rfl, rfl, q1, q2, q3, q4, q5, q6, q7, q8, q9⟩ := hq
  have hS3 : gb_S (sh ++ gb_lawcells c n m) := hS.app
  have hnew : gb_newlaw r c n m g2 := by
    refine ⟨fun a ha => ?_, q2, q3, ?_, fun j hj => ?_, fun j hj => ?_, fun j hj => ?_, fun j hj => ?_, fun j hj => ?_⟩
    · obtain ⟨z1, z2, z3⟩ := q1 a ha
      obtain ⟨y1, y2, y3⟩ := hg1o a ha
      exact ⟨z1.trans y1, z2.trans y2, z3.trans y3⟩
    · rw [q4, hg46 46 (by omega) (by omega)]
    · rw [q5 j hj, hg46 47 (by omega) (by omega)]
    · rw [q6 j hj, hg46 48 (by omega) (by omega)]
    · rw [q7 j hj, hg46 49 (by omega) (by omega)]
    · rw [q8 j hj, hg46 50 (by omega) (by omega)]
    · rw [q9 j hj, hg46 51 (by omega) (by omega)]
  have h17b : g2.1 1 7 = Int32.ofNat k := by
    rw [(q1 1 (by omega)).1, hg46 1 (by omega) (by omega)]
    exact h17
  have hok : gb_okX7 (sh ++ gb_lawcells c n m) c := by
    have z : ∀ (i : Nat) (x : gb_Sh), (gb_lawcells c n m)[i]? = some x → (sh ++ gb_lawcells c n m)[c + i]? = some x := fun i x hx => gb_at hc hx
    refine ⟨z 0 _ rfl, ?_, ?_, ?_, ?_, ?_⟩
    · rw [gb_ln, z 1 _ rfl]
    · rw [gb_ln, z 2 _ rfl]
    · rw [gb_ln, z 3 _ rfl]
    · rw [gb_ln, z 4 _ rfl]
    · rw [gb_ln, z 5 _ rfl]
  refine (show gb_J Γ M_X10_law 483 _ 0 0 (sh ++ gb_lawcells c n m) g2 73 [(0, .ref 0)] [.ref c, .ref 1, .ref 0] → _ from fun h => h.more) ?_
  refine gb_cVi (As := [.ref c]) (rest := [.ref 0]) m_X10_200 (t_X0_enact (Γ := Γ) hS3 (ok_X0_1 hS3) hok (gb_enact hk h17b)) (ok_X0_1 hS3).1 rfl (Nat.le_of_ble_eq_true rfl) rfl rfl (Nat.le_of_ble_eq_true rfl) d_X10_law_73 ?_
  refine gb_cVi (o := (gb_pi (gb_pr (gb_pi g2 1 7 (Int32.ofNat (k + 1))) 6 k (some c)) 0 18 0, Int32.ofNat k)) (As := [.int (Int32.ofNat k)]) (rest := []) m_X10_133 (t_X10_grant (Γ := Γ) hS3 rfl) (hS3 0 _ rfl) rfl (Nat.le_of_ble_eq_true rfl) rfl rfl (Nat.le_of_ble_eq_true rfl) d_X10_law_76 ?_
  exact gb_iret d_X10_law_79 rfl ⟨g2, rfl, hnew, rfl, rfl⟩
