/-! ===== TESTS: the reference reads so ===== -/
def Nk (k : Nat) : Pl := List.replicate k (28, 0)
theorem Nk_s (k : Nat) : Nk (k + 1) = (28, 0) :: Nk k := rfl
theorem Nk_m {k : Nat} {q : Nat × Nat} (h : q ∈ Nk k) : q = (28, 0) := (List.mem_replicate.1 h).2
theorem top_N {k lv : Nat} {P : Pl} (h : top P < lv) (h4 : 3 < lv) : top (Nk k ++ P) < lv := by
  cases k with
  | zero => exact h
  | succ k => exact h4
/-- the "not"s are settled -/
theorem not_k {ord : Bool} {nw a m : Nat} {P : Pl} (htop : top P < 3) : ∀ (k : Nat) (cd : Cd) (D : Den), a ≤ cd.1 → 1 ≤ m → TD nw D → XR ord cd.2.1 cd.2.2 nw a cd.1 m D → (stl 3 (Nk k ++ P) cd).1 = P ∧ lowR cd (stl 3 (Nk k ++ P) cd).2 ∧ cd.1 ≤ (stl 3 (Nk k ++ P) cd).2.1 ∧ XR ord (stl 3 (Nk k ++ P) cd).2.2.1 (stl 3 (Nk k ++ P) cd).2.2.2 nw a (stl 3 (Nk k ++ P) cd).2.1 m (Dk k D) := by
  intro k
  induction k with
  | zero =>
    intro cd D _ _ _ h
    rw [show Nk 0 ++ P = P from rfl, stl_n htop]
    exact ⟨rfl, fun _ _ => ⟨rfl, rfl⟩, Nat.le_refl _, h⟩
  | succ k ih =>
    intro cd D ha hm hT h
    have e : stl 3 (Nk (k + 1) ++ P) cd = stl 3 (Nk k ++ P) (cd.1 + 1, upd cd.2.1 cd.1 (Int32.ofNat 28), upd cd.2.2 cd.1 0) := rfl
    have x : XR ord (upd cd.2.1 cd.1 (Int32.ofNat 28)) (upd cd.2.2 cd.1 0) nw a (cd.1 + 1) m (Dn D) := XR_not (h.eq fun i hi hj => ⟨upn (by omega), upn (by omega)⟩) hT (by rw [upe]; rfl) ha hm
    obtain ⟨i1, i2, i3, i4⟩ := ih (cd.1 + 1, upd cd.2.1 cd.1 (Int32.ofNat 28), upd cd.2.2 cd.1 0) (Dn D) (by show a ≤ cd.1 + 1; omega) hm (TD_n hT) x
    rw [e]
    have ek : ∀ k, Dk k (Dn D) = Dk (k + 1) D := by
      intro k
      induction k with
      | zero => rfl
      | succ k ih => rw [Dk, ih]; rfl
    rw [ek] at i4
    refine ⟨i1, ?_, by simp only [] at i3; omega, i4⟩
    exact lowR.tr (fun i hi => ⟨upn (by omega), upn (by omega)⟩) i2 (by show cd.1 ≤ cd.1 + 1; omega)
/-- the "not"s are read -/
theorem nots_m {sh : List gb_Sh} {n l d : Nat} {B : Nat → Int32} {ord : Bool} {y1 : Int32} {cd : Cd} {P : Pl} (hn : n ≤ 400) : ∀ (f s k0 : Nat) (g : gb_G), RSt n B ord g s l cd (Nk k0 ++ P) d → ∃ g', RSt n B ord g' (nts n B f s).1 l cd (Nk ((nts n B f s).2 + k0) ++ P) d ∧ ∀ F, (nts n B f s).2 ≤ F → rL sh F g y1 0 = rL sh (F - (nts n B f s).2) g' y1 0 := by
  intro f
  induction f with
  | zero => intro s k0 g h; exact ⟨g, by rw [nts]; show RSt n B ord g s l cd (Nk (0 + k0) ++ P) d; rw [Nat.zero_add]; exact h, fun F _ => rfl⟩
  | succ f ih =>
    intro s k0 g h
    rw [nts]
    by_cases q : isK n B s 7
    · rw [if_pos q]
      have hlt := isK_n (by omega) h.1.2.1 q
      obtain ⟨o1, o2, e1, e2, r⟩ := RSt_pn (sh := sh) (op := 28) (at' := 0) h hlt hn (by omega) (by omega)
      have ep : f_X11_readPlain sh g = some (o2, 0) := by
        unfold f_X11_readPlain
        rw [show (14836 : Int64) = Int64.ofNat (kh 7) from rfl, kw_m hn (by omega) h.1, if_pos q, bt]
        simp only []
        rw [show (28 : Int32) = Int32.ofNat 28 from rfl, show (0 : Int32) = Int32.ofNat 0 from rfl, e1, gb_bd_s, e2, gb_bd_s]
      obtain ⟨g', r', st⟩ := ih (tn n B s) (k0 + 1) o2 r
      refine ⟨g', ?_, fun F hF => ?_⟩
      · show RSt n B ord g' (nts n B f (tn n B s)).1 l cd (Nk ((nts n B f (tn n B s)).2 + 1 + k0) ++ P) d
        rw [show (nts n B f (tn n B s)).2 + 1 + k0 = (nts n B f (tn n B s)).2 + (k0 + 1) by omega]; exact r'
      · obtain ⟨F', rfl⟩ : ∃ F', F = F' + 1 := ⟨F - 1, by simp only [] at hF; omega⟩
        simp only [] at hF ⊢
        rw [l_pl h.2.1 ep]
        simp only []
        rw [st F' (by omega), show F' + 1 - ((nts n B f (tn n B s)).2 + 1) = F' - (nts n B f (tn n B s)).2 by omega]
    · rw [if_neg q]
      exact ⟨g, by show RSt n B ord g s l cd (Nk (0 + k0) ++ P) d; rw [Nat.zero_add]; exact h, fun F _ => rfl⟩
/-- where a TEST may be read -/
def Zt (y1 : Int32) (P : Pl) : Prop := ¬ inv P = 32 ∧ (inv P = -1 → y1 = 1)
theorem cmpd_a {P : Pl} : ∀ (Q : Pl), (∀ q ∈ Q, 20 ≤ q.1 ∧ q.1 ≤ 24) → (cmpd (Q ++ P) ↔ cmpd P) := by
  intro Q
  induction Q with
  | nil => intro _; exact Iff.rfl
  | cons q r ih =>
    intro h
    have hq := h q (List.mem_cons_self ..)
    rw [show cmpd (q :: r ++ P) = if 20 ≤ q.1 ∧ q.1 ≤ 24 then cmpd (r ++ P) else 25 ≤ q.1 ∧ q.1 ≤ 27 from rfl, if_pos hq]
    exact ih fun v hv => h v (List.mem_cons_of_mem _ hv)
theorem bnd_4 {op : Nat} (h : bnd op < 4) : ¬ (20 ≤ op ∧ op ≤ 27) := by
  intro z
  have key : ∀ k : Fin 28, 20 ≤ k.val → 4 ≤ bnd k.val := by decide
  have := key ⟨op, by omega⟩ z.1
  simp only [] at this
  omega
theorem cmpd_n {P : Pl} (h : top P < 4) : ¬ cmpd P := by
  cases P with
  | nil => exact fun z => z
  | cons q r =>
    have hq := bnd_4 (show bnd q.1 < 4 from h)
    rw [show cmpd (q :: r) = if 20 ≤ q.1 ∧ q.1 ≤ 24 then cmpd r else 25 ≤ q.1 ∧ q.1 ≤ 27 from rfl, if_neg (by omega)]
    omega
theorem inv_N {k : Nat} {P : Pl} : inv (Nk k ++ P) = inv P := inv_a (Nk k) fun q hq => by rw [Nk_m hq]; decide
/-- behind a SUM of a TEST -/
theorem bs_163 {sh : List gb_Sh} {n s l d : Nat} {B : Nat → Int32} {ord : Bool} {y1 : Int32} {g : gb_G} {cd : Cd} {P : Pl} (hn : n ≤ 400) (h : RSt n B ord g s l cd P d) (h9 : sx n B s 9 = none) (h10 : sx n B s 10 = none) (hz : Zt y1 P) : f_X11_behindSum sh g y1 = f_X11_behindSum_163 sh g := by
  have hb := h.2.2.2.2.2.2.2.2.2.1
  have hsn := h.1.2.1
  rw [bs_n h.1 h9 h10]
  unfold f_X11_behindSum_71
  rw [if_pos rfl, inn_m h.2.2.2.2.2.2.1 h.2.2.2.2.2.2.2.1 (by omega), gb_bd_s]
  simp only []
  rw [if_neg hz.1]
  by_cases q : inv P = -1
  · rw [if_pos q, hz.2 q, if_neg (by decide)]
  · rw [if_neg q]
/-- a comparison -/
theorem bs_cmp {sh : List gb_Sh} {n s l d : Nat} {B : Nat → Int32} {ord : Bool} {y1 : Int32} {g : gb_G} {cd : Cd} {P : Pl} (hn : n ≤ 400) (h : RSt n B ord g s l cd P d) (h9 : sx n B s 9 = none) (h10 : sx n B s 10 = none) (hz : Zt y1 P) (hc : ¬ cmpd P) : (sx n B s 8 = none → f_X11_behindSum sh g y1 = some (gb_pi (gb_pi g 77 19 1) 77 18 (Int32.ofNat s), 1)) ∧ ∀ j, sx n B s 8 = some j → ∃ o, f_X11_behindSum sh g y1 = some (o, 1) ∧ RSt n B ord o (tn n B s) l (stl 5 P cd).2 ((25 + j, 0) :: (stl 5 P cd).1) d := by
  have hb := h.2.2.2.2.2.2.2.2.2.1
  have hsn := h.1.2.1
  obtain ⟨v, ev, pv⟩ := cmp_m (sh := sh) h.2.2.2.2.2.2.1 h.2.2.2.2.2.2.2.1 (by omega)
  have v0 : v = 0 := by
    rcases pv with ⟨a, -⟩ | ⟨-, b⟩
    · exact a
    · exact absurd b hc
  rw [v0] at ev
  have no : ∀ c : Int32, ¬ B s = c → ¬ isG n B s c := fun c hc z => hc z.2
  have e163 : f_X11_behindSum sh g y1 = gb_bd (f_X11_isSign sh g 60) (fun r15 => if r15.2 = 0 then (gb_bd (f_X11_isSign sh r15.1 62) (fun r17 => if r17.2 = 0 then (f_X11_behindSum_202 sh r17.1 27) else (f_X11_behindSum_202 sh r17.1 26))) else (f_X11_behindSum_202 sh r15.1 25)) := by
    rw [bs_163 hn h h9 h10 hz]
    unfold f_X11_behindSum_163
    rw [ev, bf]
  refine ⟨fun hx => ?_, fun j hj => ?_⟩
  · have a := sx_n hx
    rw [e163, sg_m h.1 (by decide), if_neg (a 60 (by decide)), bf]
    simp only []
    rw [sg_m h.1 (by decide), if_neg (a 62 (by decide)), bf]
    simp only []
    unfold f_X11_behindSum_202 f_X11_behindSum_224
    rw [if_pos rfl, sg_m h.1 (by decide), if_neg (a 61 (by decide)), bf]
    simp only []
    rw [must_f h.1 h.2.1, gb_bd_s, show (gb_pi (gb_pi g 77 19 1) 77 18 (Int32.ofNat s)).1 77 19 = 1 from (pi_n (by omega)).trans pi_e, if_neg (by decide)]
  · obtain ⟨k1, k2, k3⟩ := sx_b hj
    have ht := tn_b (B := B) hsn
    have hlt := ht.2.2 k1
    obtain ⟨g1, e1, m1, e1'⟩ := must_t (sh := sh) (x := 1) hn h.1 h.2.1 (by decide)
    have h1 := RSt_nx h m1 ht.1 (nx_e e1')
    obtain ⟨g2, e2, h2⟩ := RSt_se (sh := sh) (lv := 5) h1 hn (by omega)
    have sl := (stl_l (lv := 5) P cd).1
    have j3 : j < 3 := k2
    obtain ⟨g3, e3, h3⟩ := RSt_np (sh := sh) (op := 25 + j) (at' := 0) h2 (by omega) hn (by omega) (by omega)
    have e224 : f_X11_behindSum_224 sh g (Int32.ofNat (25 + j)) 1 = some (g3, 1) := by
      unfold f_X11_behindSum_224
      rw [e1, gb_bd_s, if_pos h1.2.1, show (5 : Int32) = Int32.ofNat 5 from rfl, e2, gb_bd_s, show (0 : Int32) = Int32.ofNat 0 from rfl, e3, gb_bd_s]
    refine ⟨g3, ?_, h3⟩
    have h2 : j = 0 ∨ j = 1 ∨ j = 2 := by omega
    rcases h2 with rfl | rfl | rfl
    · have e : B s = 60 := k3
      rw [e163, sg_m h.1 (by decide), if_pos ⟨k1, e⟩, bt]
      unfold f_X11_behindSum_202
      simp only []
      rw [if_neg (by decide)]; exact e224
    · have e : B s = 62 := k3
      rw [e163, sg_m h.1 (by decide), if_neg (no 60 (by rw [e]; decide)), bf]
      simp only []
      rw [sg_m h.1 (by decide), if_pos ⟨k1, e⟩, bt]
      unfold f_X11_behindSum_202
      simp only []
      rw [if_neg (by decide)]; exact e224
    · have e : B s = 61 := k3
      rw [e163, sg_m h.1 (by decide), if_neg (no 60 (by rw [e]; decide)), bf]
      simp only []
      rw [sg_m h.1 (by decide), if_neg (no 62 (by rw [e]; decide)), bf]
      unfold f_X11_behindSum_202
      simp only []
      rw [if_pos trivial, sg_m h.1 (by decide), if_pos ⟨k1, e⟩, bt]; exact e224
/-- behind the second SUM -/
theorem bs_told {sh : List gb_Sh} {n s l d : Nat} {B : Nat → Int32} {ord : Bool} {y1 : Int32} {g : gb_G} {cd : Cd} {P : Pl} (hn : n ≤ 400) (h : RSt n B ord g s l cd P d) (h9 : sx n B s 9 = none) (h10 : sx n B s 10 = none) (hz : Zt y1 P) (hc : cmpd P) : f_X11_behindSum sh g y1 = some (g, 2) := by
  have hb := h.2.2.2.2.2.2.2.2.2.1
  have hsn := h.1.2.1
  obtain ⟨v, ev, pv⟩ := cmp_m (sh := sh) h.2.2.2.2.2.2.1 h.2.2.2.2.2.2.2.1 (by omega)
  have v1 : v = 1 := by
    rcases pv with ⟨-, b⟩ | ⟨a, -⟩
    · exact absurd hc b
    · exact a
  rw [v1] at ev
  rw [bs_163 hn h h9 h10 hz]
  unfold f_X11_behindSum_163
  rw [ev, bt]
