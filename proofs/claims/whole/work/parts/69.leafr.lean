/-! ===== a PART that is no bracket, in the reference ===== -/
def lowR (cd cd' : Cd) : Prop := ∀ i, i < cd.1 → cd'.2.1 i = cd.2.1 i ∧ cd'.2.2 i = cd.2.2 i
theorem lowR.tr {a b c : Cd} (h1 : lowR a b) (h2 : lowR b c) (h : a.1 ≤ b.1) : lowR a c := fun i hi => ⟨(h2 i (by omega)).1.trans (h1 i hi).1, (h2 i (by omega)).2.trans (h1 i hi).2⟩
/-- where the next TOKEN has been read -/
theorem RSt_nx {n s s' l d : Nat} {B : Nat → Int32} {ord : Bool} {g g' : gb_G} {cd : Cd} {P : Pl} (h : RSt n B ord g s l cd P d) (h2 : mS g' n B s') (hs : s ≤ s') (e : ∀ a k, ¬ (a = 77 ∧ 14 ≤ k ∧ k ≤ 17) → eqc g g' a k) : RSt n B ord g' s' l cd P d := by
  obtain ⟨a1, a2, a3, a4, a5, ⟨b1, b2, b3⟩, ⟨p1, p2⟩, a8, a9, a10, a11, a12⟩ := h
  exact ⟨h2, (e _ _ (by omega)).1.trans a2, (e _ _ (by omega)).1.trans a3, (e _ _ (by omega)).1.trans a4, (e _ _ (by omega)).1.trans a5, ⟨(e _ _ (by omega)).1.trans b1, (funext fun k => (e 88 k (by omega)).1).trans b2, (funext fun k => (e 89 k (by omega)).1).trans b3⟩, ⟨(e _ _ (by omega)).1.trans p1, PS_fr p2 fun k _ => ⟨(e _ _ (by omega)).1, (e _ _ (by omega)).1⟩⟩, a8, mvC_fr a9 fun c k q => e c k (by omega), by omega, a11, a12⟩
theorem nx_e {sh : List gb_Sh} {g o : gb_G} (e : f_X11_next sh g = some o) : ∀ a k, ¬ (a = 77 ∧ 14 ≤ k ∧ k ≤ 17) → eqc g o a k := fun a k h => w_X11_next e a k (by omega)
/-- code is put behind -/
theorem RSt_em {sh : List gb_Sh} {n s l d : Nat} {B : Nat → Int32} {ord : Bool} {g : gb_G} {cd : Cd} {P : Pl} {x y : Int32} (h : RSt n B ord g s l cd P d) (hc : cd.1 + 1 + P.length ≤ s) (hn : n ≤ 400) : ∃ o, f_X11_emit sh g x y = some o ∧ RSt n B ord o s l (cd.1 + 1, upd cd.2.1 cd.1 x, upd cd.2.2 cd.1 y) P d := by
  obtain ⟨a1, a2, a3, a4, a5, a6, ⟨p1, p2⟩, a8, a9, a10, a11, a12⟩ := h
  have hsn := a1.2.1
  obtain ⟨o, e, c⟩ := emit_m (sh := sh) (x := x) (y := y) a6 (by omega)
  have F := w_X11_emit e
  obtain ⟨m1, m2, m3, m4, m5, m6⟩ := a1
  refine ⟨o, e, ⟨⟨(F _ _ (by omega)).1.trans m1.1, fun j hj => (F _ _ (by omega)).1.trans (m1.2 j hj)⟩, m2, (F _ _ (by omega)).1.trans m3, (F _ _ (by omega)).1.trans m4, (F _ _ (by omega)).1.trans m5, (F 77 17 (by omega)).2.1.trans m6⟩, (F _ _ (by omega)).1.trans a2, (F _ _ (by omega)).1.trans a3, (F _ _ (by omega)).1.trans a4, (F _ _ (by omega)).1.trans a5, c, ⟨(F _ _ (by omega)).1.trans p1, PS_fr p2 fun k _ => ⟨(F _ _ (by omega)).1, (F _ _ (by omega)).1⟩⟩, a8, mvC_fr a9 fun c k q => F c k (by omega), hc, a11, a12⟩
theorem RSt_pu {sh : List gb_Sh} {n s l d op at' : Nat} {B : Nat → Int32} {ord : Bool} {g : gb_G} {cd : Cd} {P : Pl} (h : RSt n B ord g s l cd P d) (hc : cd.1 + P.length + 1 ≤ n) (hn : n ≤ 400) (ho : op ≤ 32) (ha : at' < 400) : ∃ o, f_X11_push sh g (Int32.ofNat op) (Int32.ofNat at') = some o ∧ mS o n B s ∧ o.1 77 19 = 0 ∧ o.1 77 20 = (if ord = true then 1 else 0) ∧ o.1 77 26 = Int32.ofNat l ∧ o.1 77 30 = Int32.ofNat d ∧ cdE o cd ∧ plE o ((op, at') :: P) ∧ okP ((op, at') :: P) ∧ mvC o := by
  obtain ⟨a1, a2, a3, a4, a5, ⟨b1, b2, b3⟩, a7, a8, a9, a10, a11, a12⟩ := h
  obtain ⟨o, e, c⟩ := push_m (sh := sh) (op := op) (at' := at') a7 (by omega)
  have F := w_X11_push e
  obtain ⟨m1, m2, m3, m4, m5, m6⟩ := a1
  refine ⟨o, e, ⟨⟨(F _ _ (by omega)).1.trans m1.1, fun j hj => (F _ _ (by omega)).1.trans (m1.2 j hj)⟩, m2, (F _ _ (by omega)).1.trans m3, (F _ _ (by omega)).1.trans m4, (F _ _ (by omega)).1.trans m5, (F 77 17 (by omega)).2.1.trans m6⟩, (F _ _ (by omega)).1.trans a2, (F _ _ (by omega)).1.trans a3, (F _ _ (by omega)).1.trans a4, (F _ _ (by omega)).1.trans a5, ⟨(F _ _ (by omega)).1.trans b1, (funext fun k => (F 88 k (by omega)).1).trans b2, (funext fun k => (F 89 k (by omega)).1).trans b3⟩, c, ?_, mvC_fr a9 fun c k q => F c k (by omega)⟩
  intro q hq
  rcases List.mem_cons.1 hq with z | z
  · rw [z]; exact ⟨ho, ha⟩
  · exact a8 q z
/-- pushed, and the next TOKEN -/
theorem RSt_pn {sh : List gb_Sh} {n s l d op at' : Nat} {B : Nat → Int32} {ord : Bool} {g : gb_G} {cd : Cd} {P : Pl} (h : RSt n B ord g s l cd P d) (hs : s < n) (hn : n ≤ 400) (ho : op ≤ 32) (ha : at' < 400) : ∃ o1 o2, f_X11_push sh g (Int32.ofNat op) (Int32.ofNat at') = some o1 ∧ f_X11_next sh o1 = some o2 ∧ RSt n B ord o2 (tn n B s) l cd ((op, at') :: P) d := by
  have hb := h.2.2.2.2.2.2.2.2.2
  have ht := tn_b (B := B) h.1.2.1
  have hlt := ht.2.2 hs
  obtain ⟨o1, e1, c1, c2, c3, c4, c5, c6, c7, c8, c9⟩ := RSt_pu (sh := sh) (op := op) (at' := at') h (by omega) hn ho ha
  obtain ⟨o2, e2, m2⟩ := next_m (sh := sh) hn c1
  have e := nx_e e2
  obtain ⟨b1, b2, b3⟩ := c6
  obtain ⟨p1, p2⟩ := c7
  exact ⟨o1, o2, e1, e2, m2, (e _ _ (by omega)).1.trans c2, (e _ _ (by omega)).1.trans c3, (e _ _ (by omega)).1.trans c4, (e _ _ (by omega)).1.trans c5, ⟨(e _ _ (by omega)).1.trans b1, (funext fun k => (e 88 k (by omega)).1).trans b2, (funext fun k => (e 89 k (by omega)).1).trans b3⟩, ⟨(e _ _ (by omega)).1.trans p1, PS_fr p2 fun k _ => ⟨(e _ _ (by omega)).1, (e _ _ (by omega)).1⟩⟩, c8, mvC_fr c9 fun c k q => e c k (by omega), by rw [List.length_cons]; omega, hb.2.1, hb.2.2⟩
/-- pushed behind the TOKEN -/
theorem RSt_np {sh : List gb_Sh} {n s l d op at' : Nat} {B : Nat → Int32} {ord : Bool} {g : gb_G} {cd : Cd} {P : Pl} (h : RSt n B ord g s l cd P d) (hc : cd.1 + P.length + 1 ≤ s) (hn : n ≤ 400) (ho : op ≤ 32) (ha : at' < 400) : ∃ o1, f_X11_push sh g (Int32.ofNat op) (Int32.ofNat at') = some o1 ∧ RSt n B ord o1 s l cd ((op, at') :: P) d := by
  have hb := h.2.2.2.2.2.2.2.2.2
  have hsn := h.1.2.1
  obtain ⟨o1, e1, c1, c2, c3, c4, c5, c6, c7, c8, c9⟩ := RSt_pu (sh := sh) (op := op) (at' := at') h (by omega) hn ho ha
  exact ⟨o1, e1, c1, c2, c3, c4, c5, c6, c7, c8, c9, by rw [List.length_cons]; omega, hb.2.1, hb.2.2⟩
theorem stl_l {lv : Nat} : ∀ (P : Pl) (s : Cd), (stl lv P s).2.1 + (stl lv P s).1.length ≤ s.1 + P.length ∧ (okP P → okP (stl lv P s).1) := by
  intro P
  induction P with
  | nil => intro s; exact ⟨Nat.le_refl _, fun h => h⟩
  | cons q r ih =>
    intro s
    rw [show stl lv (q :: r) s = if bnd q.1 < lv then (q :: r, s) else if q.1 = 29 ∨ q.1 = 30 then stl lv r (s.1, s.2.1, upd s.2.2 q.2 (Int32.ofNat s.1)) else stl lv r (s.1 + 1, upd s.2.1 s.1 (Int32.ofNat q.1), upd s.2.2 s.1 0) from rfl, List.length_cons]
    have okr : okP (q :: r) → okP r := fun h v hv => h v (List.mem_cons_of_mem _ hv)
    split
    · exact ⟨Nat.le_refl _, fun h => h⟩
    · split
      · have i := ih (s.1, s.2.1, upd s.2.2 q.2 (Int32.ofNat s.1))
        have i1 := i.1
        simp only [] at i1
        exact ⟨by omega, fun h => i.2 (okr h)⟩
      · have i := ih (s.1 + 1, upd s.2.1 s.1 (Int32.ofNat q.1), upd s.2.2 s.1 0)
        have i1 := i.1
        simp only [] at i1
        exact ⟨by omega, fun h => i.2 (okr h)⟩
/-- settled -/
theorem RSt_se {sh : List gb_Sh} {n s l d lv : Nat} {B : Nat → Int32} {ord : Bool} {g : gb_G} {cd : Cd} {P : Pl} (h : RSt n B ord g s l cd P d) (hn : n ≤ 400) (hlv : lv ≤ 10) : ∃ o, f_X11_settle sh g (Int32.ofNat lv) = some o ∧ RSt n B ord o s l (stl lv P cd).2 (stl lv P cd).1 d := by
  obtain ⟨a1, a2, a3, a4, a5, a6, a7, a8, a9, a10, a11, a12⟩ := h
  have hsn := a1.2.1
  obtain ⟨o, e, c1, c2⟩ := set_m (sh := sh) hlv a7 a6 a8 (by omega)
  have F := w_X11_settle e
  obtain ⟨m1, m2, m3, m4, m5, m6⟩ := a1
  have sl := stl_l (lv := lv) P cd
  exact ⟨o, e, ⟨⟨(F _ _ (by omega)).1.trans m1.1, fun j hj => (F _ _ (by omega)).1.trans (m1.2 j hj)⟩, m2, (F _ _ (by omega)).1.trans m3, (F _ _ (by omega)).1.trans m4, (F _ _ (by omega)).1.trans m5, (F 77 17 (by omega)).2.1.trans m6⟩, (F _ _ (by omega)).1.trans a2, (F _ _ (by omega)).1.trans a3, (F _ _ (by omega)).1.trans a4, (F _ _ (by omega)).1.trans a5, c2, c1, sl.2 a8, mvC_fr a9 fun c k q => F c k (by omega), by omega, a11, a12⟩
/-- a FAULT here -/
def RBd (g : gb_G) (p : Nat) : Prop := RB g p ∧ ∃ (P : Pl) (cd : Cd), plE g P ∧ cdE g cd ∧ okP P ∧ cd.1 + P.length ≤ 400
theorem RSt_bd {n s l d : Nat} {B : Nat → Int32} {ord : Bool} {g : gb_G} {cd : Cd} {P : Pl} (h : RSt n B ord g s l cd P d) (hn : n ≤ 400) : RBd (gb_pi (gb_pi g 77 19 1) 77 18 (Int32.ofNat s)) s := by
  obtain ⟨a1, a2, a3, a4, a5, ⟨b1, b2, b3⟩, ⟨p1, p2⟩, a8, a9, a10, a11, a12⟩ := h
  have hsn := a1.2.1
  refine ⟨⟨(pi_n (by omega)).trans pi_e, pi_e⟩, P, cd, ⟨(pi_n (by omega)).trans ((pi_n (by omega)).trans p1), PS_fr p2 fun k _ => ⟨(pi_n (by omega)).trans (pi_n (by omega)), (pi_n (by omega)).trans (pi_n (by omega))⟩⟩, ⟨(pi_n (by omega)).trans ((pi_n (by omega)).trans b1), ?_, ?_⟩, a8, by omega⟩
  · rw [fn_n (by omega), fn_n (by omega)]; exact b2
  · rw [fn_n (by omega), fn_n (by omega)]; exact b3
theorem lf_t {sh : List gb_Sh} {n s l d : Nat} {B : Nat → Int32} {ord : Bool} {g : gb_G} {cd : Cd} {P : Pl} {x y : Int32} (h : RSt n B ord g s l cd P d) (hn : n ≤ 400) (hl : l < 50) (hs : s < n) : ∃ o, f_X11_leaf sh g 1 x y = some o ∧ RSt n B ord o (tn n B s) (l + 1) (cd.1 + 1, upd cd.2.1 cd.1 x, upd cd.2.2 cd.1 y) P d := by
  have ht := (tn_b (B := B) h.1.2.1)
  have hlt := ht.2.2 hs
  obtain ⟨g1, e1, m1, e1'⟩ := must_t (sh := sh) (x := 1) hn h.1 h.2.1 (by decide)
  have h1 : RSt n B ord g1 (tn n B s) l cd P d := RSt_nx h m1 ht.1 (nx_e e1')
  have hc := h.2.2.2.2.2.2.2.2.2.1
  obtain ⟨o, e2, h2⟩ := RSt_em (sh := sh) (x := x) (y := y) h1 (by omega) hn
  have l2 := h2.2.2.2.1
  refine ⟨gb_pi o 77 26 (Int32.ofNat (l + 1)), ?_, ?_⟩
  · unfold f_X11_leaf f_X11_leaf_19
    rw [if_neg (show ¬ (1 : Int32) = 0 by decide), h.2.2.2.1, if_neg (by rw [show (50 : Int32) = Int32.ofNat 50 from rfl, o_le (by omega) (by omega)]; omega), e1, gb_bd_s, if_pos h1.2.1, e2, gb_bd_s, gb_let_s, l2, o_succ]
  · obtain ⟨a1, a2, a3, a4, a5, ⟨b1, b2, b3⟩, ⟨p1, p2⟩, a8, a9, a10, a11, a12⟩ := h2
    obtain ⟨m1, m2, m3, m4, m5, m6⟩ := a1
    refine ⟨⟨⟨(pi_n (by omega)).trans m1.1, fun j hj => (pi_n (by omega)).trans (m1.2 j hj)⟩, m2, (pi_n (by omega)).trans m3, (pi_n (by omega)).trans m4, (pi_n (by omega)).trans m5, m6⟩, (pi_n (by omega)).trans a2, (pi_n (by omega)).trans a3, pi_e, (pi_n (by omega)).trans a5, ⟨(pi_n (by omega)).trans b1, ?_, ?_⟩, ⟨(pi_n (by omega)).trans p1, PS_fr p2 fun k _ => ⟨pi_n (by omega), pi_n (by omega)⟩⟩, a8, mvC_fr a9 fun c k q => ⟨pi_n (by omega), rfl, rfl⟩, a10, by omega, a12⟩
    · rw [fn_n (by omega)]; exact b2
    · rw [fn_n (by omega)]; exact b3
theorem lf_f {sh : List gb_Sh} {n s l d : Nat} {B : Nat → Int32} {ord : Bool} {g : gb_G} {cd : Cd} {P : Pl} {x y z : Int32} (h : RSt n B ord g s l cd P d) (hl : z = 0 ∨ 50 ≤ l) : f_X11_leaf sh g z x y = some (gb_pi (gb_pi g 77 19 1) 77 18 (Int32.ofNat s)) := by
  have hl50 := h.2.2.2.2.2.2.2.2.2.2.1
  have k19 : f_X11_leaf_19 sh g x y 0 = some (gb_pi (gb_pi g 77 19 1) 77 18 (Int32.ofNat s)) := by
    unfold f_X11_leaf_19
    rw [must_f h.1 h.2.1, gb_bd_s, show (gb_pi (gb_pi g 77 19 1) 77 18 (Int32.ofNat s)).1 77 19 = 1 from (pi_n (by omega)).trans pi_e, if_neg (by decide)]
  unfold f_X11_leaf
  by_cases q : z = 0
  · rw [if_pos q]; exact k19
  · have q2 : 50 ≤ l := hl.resolve_left q
    rw [if_neg q, h.2.2.2.1, if_pos (by rw [show (50 : Int32) = Int32.ofNat 50 from rfl, o_le (by omega) (by omega)]; omega)]; exact k19
theorem fW_k2 {n s : Nat} {B : Nat → Int32} {ord : Bool} (hs : s ≤ n) (h : kd n B s = 2) : fW n B s (if ord = true then 11 else 12) = none := by
  cases hk : fW n B s (if ord = true then 11 else 12) with
  | none => rfl
  | some k =>
    exfalso
    have b := fw_b _ _ hk
    have f := fW_b hk hs
    rw [Nat.sub_zero] at b
    have key : ∀ i : Fin 9, (i.val < 7 → ky (((wds 11).getD i.val []).getD 0 0) = 1) ∧ ky (((wds 12).getD i.val []).getD 0 0) = 1 := by decide
    have hy : ky (B s) = 2 := by
      unfold kd at h
      rw [if_pos f.1] at h
      exact h
    cases ord with
    | true =>
      have h7 : k < 7 := f.2
      rw [(wqn hs ((wds_l ⟨k, by omega⟩).1 h7) b.2.2).2] at hy
      have := (key ⟨k, by omega⟩).1 h7
      have e : ky (((wds (if true = true then 11 else 12)).getD k []).getD 0 0) = 1 := this
      omega
    | false =>
      have h9 : k < 9 := f.2
      rw [(wqn hs (wds_l ⟨k, h9⟩).2 b.2.2).2] at hy
      have := (key ⟨k, h9⟩).2
      have e : ky (((wds (if false = true then 11 else 12)).getD k []).getD 0 0) = 1 := this
      omega
/-- a PART that is no bracket, in the reference -/
theorem lf_m {sh : List gb_Sh} {n s l d : Nat} {B : Nat → Int32} {ord : Bool} {g : gb_G} {cd : Cd} {P : Pl} (h : RSt n B ord g s l cd P d) (hn : n ≤ 400) (hq : ¬ isG n B s 91) : ∃ r, f_X11_readPart sh g = some (r, 3) ∧ (match lfO n B ord s l with
    | .inl p => RBd r p
    | .inr (s', l', D, _) => ∃ cd' : Cd, RSt n B ord r s' l' cd' P d ∧ cd'.1 = cd.1 + 1 ∧ lowR cd cd' ∧ XR ord cd'.2.1 cd'.2.2 (nW ord) cd.1 (cd.1 + 1) 1 D) := by
  have hsn := h.1.2.1
  have h20 := h.2.2.1
  have hl50 := h.2.2.2.2.2.2.2.2.2.2.1
  have hsb : so n B s < 100 := by
    unfold so
    have := ky_2 (B s)
    split
    · split <;> omega
    · omega
  have s16 := h.1.2.2.2.2.1
  have s17 := h.1.2.2.2.2.2
  have e0 : f_X11_readPart sh g = f_X11_readPart_35 sh g (match fW n B s (if ord = true then 11 else 12) with | none => -1 | some k => Int32.ofNat (k + 1)) := by
    unfold f_X11_readPart
    rw [sg_m h.1 (by decide), if_neg hq, bf]
    simp only []
    rw [h20]
    cases ord with
    | true => rw [if_pos rfl, if_neg (by decide), oA_m hn h.2.2.2.2.2.2.2.2.1 h.1, gb_bd_s]; rfl
    | false => rw [if_neg (show ¬ false = true by decide), if_pos rfl, pA_m hn h.2.2.2.2.2.2.2.2.1 h.1, gb_bd_s]; rfl
  have lowu : ∀ x y : Int32, lowR cd (cd.1 + 1, upd cd.2.1 cd.1 x, upd cd.2.2 cd.1 y) := fun x y i hi => ⟨upn (by omega), upn (by omega)⟩
  have n99 : ∀ (z0 z1 z2 y1 : Int32) (r : gb_G), (y1 < 6 ∨ r.1 77 19 = 1) → f_X11_leaf sh g z2 z1 z0 = some r → f_X11_readPart_99 sh g y1 z0 z1 z2 = some (r, 3) := by
    intro z0 z1 z2 y1 r hy e
    unfold f_X11_readPart_99
    rw [e, gb_bd_s]
    split
    · rfl
    · split
      · rfl
      · next q =>
        rcases hy with hy | hy
        · exact absurd hy q
        · rw [hy, if_neg (by decide)]
  have badr : ∀ (z0 z1 z2 y1 : Int32), z2 = 0 ∨ 50 ≤ l → f_X11_readPart_99 sh g y1 z0 z1 z2 = some (gb_pi (gb_pi g 77 19 1) 77 18 (Int32.ofNat s), 3) := fun z0 z1 z2 y1 hz => n99 z0 z1 z2 y1 _ (Or.inr ((pi_n (by omega)).trans pi_e)) (lf_f h hz)
  rw [e0]
  unfold f_X11_readPart_35 lfO
  rw [s16, s17]
  by_cases k2 : kd n B s = 2
  · have hs2 : so n B s = 2 := so_2.2 k2
    have hlt := kd_n (n := n) (B := B) (s := s) (by omega)
    rw [fW_k2 hsn k2, hs2, if_pos (show Int32.ofNat 2 = 2 from rfl), wo_2 k2]
    have hNV := NV_b (n := n) (B := B) (t := s)
    simp only []
    unfold f_X11_readPart_60 f_X11_readPart_76 f_X11_readPart_86
    rw [s17, wo_2 k2]
    by_cases v : NV n B s ≤ 1000
    · rw [if_neg (show ¬ 0 < lg_cmp (Int64.ofNat (NV n B s)) 1000 by rw [lg_cmp_gt, Int64.lt_iff_toInt_lt, l_int (by omega), show (1000 : Int64).toInt = 1000 from rfl]; omega), if_pos rfl, if_neg (show ¬ (1 : Int32) = 0 by decide), if_pos rfl, if_neg (show ¬ (1 : Int32) = 0 by decide), i32]
      by_cases q : 50 ≤ l
      · rw [if_pos q, badr _ _ _ _ (Or.inr q)]
        exact ⟨_, rfl, RSt_bd h hn⟩
      · rw [if_neg q, if_pos k2, if_pos v]
        obtain ⟨o, e, r⟩ := lf_t (sh := sh) (x := 0) (y := Int32.ofNat (NV n B s)) h hn (by omega) hlt
        exact ⟨o, n99 _ _ _ _ _ (Or.inl (by decide)) e, _, r, rfl, lowu _ _, XR_num upe upe⟩
    · rw [if_pos (show 0 < lg_cmp (Int64.ofNat (NV n B s)) 1000 by rw [lg_cmp_gt, Int64.lt_iff_toInt_lt, l_int (by omega), show (1000 : Int64).toInt = 1000 from rfl]; omega), if_pos rfl, if_pos rfl, if_pos rfl, if_pos rfl, badr _ _ _ _ (Or.inl rfl)]
      refine ⟨_, rfl, ?_⟩
      split
      · next p hp =>
        split at hp
        · cases hp; exact RSt_bd h hn
        · cases hp; exact RSt_bd h hn
      · next hp =>
        split at hp
        · cases hp
        · cases hp
  · rw [if_neg (show ¬ Int32.ofNat (so n B s) = 2 from fun z => k2 (so_2.1 (o_inj (j := 2) (by omega) (by omega) z)))]
    unfold f_X11_readPart_60 f_X11_readPart_76 f_X11_readPart_86
    cases hk : fW n B s (if ord = true then 11 else 12) with
    | none =>
      simp only []
      rw [if_pos trivial, if_pos trivial, if_pos trivial, if_pos trivial, badr _ _ _ _ (Or.inl rfl)]
      refine ⟨_, rfl, ?_⟩
      rw [if_neg k2]
      split
      · next p hp => split at hp <;> (cases hp; exact RSt_bd h hn)
      · next hp => split at hp <;> cases hp
    | some k =>
      obtain ⟨hlt, hk9⟩ := fW_b hk hsn
      have hk10 : k < 9 := by split at hk9 <;> omega
      simp only []
      rw [if_neg (o_ne1 (by omega)), if_neg (o_ne1 (by omega)), if_pos trivial]
      by_cases q : 50 ≤ l
      · rw [if_pos q, badr _ _ _ _ (Or.inr q)]
        exact ⟨_, rfl, RSt_bd h hn⟩
      · rw [if_neg q, if_neg k2]
        obtain ⟨o, e, r⟩ := lf_t (sh := sh) (x := Int32.ofNat (k + 1)) (y := 0) h hn (by omega) hlt
        by_cases q5 : ord = true ∧ 5 ≤ k
        · obtain ⟨q5, q6⟩ := q5
          subst q5
          have h7 : k < 7 := hk9
          rw [if_pos (show true = true ∧ 5 ≤ k from ⟨rfl, q6⟩)]
          have o20 : o.1 77 20 = 1 := r.2.2.1
          have o23 : o.1 77 23 = Int32.ofNat (cd.1 + 1) := r.2.2.2.2.2.1.1
          have hcd : cd.1 < 400 := by
            have hb := r.2.2.2.2.2.2.2.2.2.1
            have hsn2 := r.1.2.1
            simp only [] at hb
            omega
          have e99 : f_X11_readPart_99 sh g (Int32.ofNat (k + 1)) 0 (Int32.ofNat (k + 1)) 1 = gb_bd (f_X11_number sh o 0 7) (fun r7 => gb_ck (Int32.ofNat cd.1) 400 (gb_let (gb_pi r7.1 89 ((Int32.ofNat cd.1).toNatClampNeg) r7.2) (fun g10 => some (g10, (3 : Int32))))) := by
            unfold f_X11_readPart_99
            rw [e, gb_bd_s, o20, if_neg (by decide), if_neg (by rw [show (6 : Int32) = Int32.ofNat 6 from rfl, o_lt (by omega) (by omega)]; omega), if_pos r.2.1, o23, o_pred]
          have o16 := r.1.2.2.2.2.1
          have o17 := r.1.2.2.2.2.2
          have hNV := NV_b (n := n) (B := B) (t := tn n B s)
          have hsb2 : so n B (tn n B s) < 100 := by
            unfold so
            have := ky_2 (B (tn n B s))
            split
            · split <;> omega
            · omega
          by_cases v : kd n B (tn n B s) = 2 ∧ NV n B (tn n B s) ≤ 7
          · rw [if_pos v]
            have ht2 := tn_b (B := B) r.1.2.1
            obtain ⟨o2, e2, m2, e2'⟩ := must_t (sh := sh) (x := 1) hn r.1 r.2.1 (by decide)
            have r2 := RSt_nx r m2 ht2.1 (nx_e e2')
            have en : f_X11_number sh o 0 7 = some (o2, Int32.ofNat (NV n B (tn n B s))) := by
              unfold f_X11_number f_X11_number_33
              have i7 : f_X11_in sh o (Int32.ofNat (NV n B (tn n B s))).toInt64 0 7 = some (o, 1) := in_t (lo := 0) (hi := 7) (by rw [im, o_int (by omega)]; omega) rfl rfl
              rw [n64 (by omega)] at i7
              rw [o16, so_2.2 v.1, if_pos (show Int32.ofNat 2 = 2 from rfl), o17, wo_2 v.1, i7, bt]
              simp only []
              rw [e2, gb_bd_s, i32]
            refine ⟨gb_pi o2 89 cd.1 (Int32.ofNat (NV n B (tn n B s))), by rw [e99, en, gb_bd_s, gb_ck_s (o_in hcd (by omega)), o_cl (by omega), gb_let_s], (cd.1 + 1, upd cd.2.1 cd.1 (Int32.ofNat (k + 1)), upd cd.2.2 cd.1 (Int32.ofNat (NV n B (tn n B s)))), ?_, rfl, lowu _ _, ?_⟩
            · obtain ⟨a1, a2, a3, a4, a5, ⟨b1, b2, b3⟩, ⟨p1, p2⟩, a8, a9, a10, a11, a12⟩ := r2
              obtain ⟨m1, m2, m3, m4, m5, m6⟩ := a1
              refine ⟨⟨⟨(pi_n (by omega)).trans m1.1, fun j hj => (pi_n (by omega)).trans (m1.2 j hj)⟩, m2, (pi_n (by omega)).trans m3, (pi_n (by omega)).trans m4, (pi_n (by omega)).trans m5, m6⟩, (pi_n (by omega)).trans a2, (pi_n (by omega)).trans a3, (pi_n (by omega)).trans a4, (pi_n (by omega)).trans a5, ⟨(pi_n (by omega)).trans b1, ?_, ?_⟩, ⟨(pi_n (by omega)).trans p1, PS_fr p2 fun k _ => ⟨pi_n (by omega), pi_n (by omega)⟩⟩, a8, mvC_fr a9 fun c k q => ⟨pi_n (by omega), rfl, rfl⟩, a10, a11, a12⟩
              · rw [fn_n (by omega)]; exact b2
              · rw [fn_e, b3]
                funext j
                simp only []
                by_cases z : j = cd.1
                · subst z; rw [upe, upe]
                · rw [upn z, upn z, upn z]
            · have x := XR_wordN (O := upd cd.2.1 cd.1 (Int32.ofNat (k + 1))) (A := upd cd.2.2 cd.1 (Int32.ofNat (NV n B (tn n B s)))) (nw := nW true) (a := cd.1) (j := NV n B (tn n B s)) (p := k - 5) (by omega) (by rw [upe, show 6 + (k - 5) = k + 1 by omega]) upe (by omega)
              exact x
          · rw [if_neg v]
            have en : f_X11_number sh o 0 7 = some (gb_pi (gb_pi o 77 19 1) 77 18 (Int32.ofNat (tn n B s)), (wo n B (tn n B s)).toInt32) := by
              unfold f_X11_number f_X11_number_33
              by_cases v1 : kd n B (tn n B s) = 2
              · have v2 : ¬ NV n B (tn n B s) ≤ 7 := fun z => v ⟨v1, z⟩
                have i7 : f_X11_in sh o (Int32.ofNat (NV n B (tn n B s))).toInt64 0 7 = some (o, 0) := in_f (lo := 0) (hi := 7) (by rw [im, o_int (by omega)]; omega) rfl rfl
                rw [n64 (by omega)] at i7
                rw [o16, so_2.2 v1, if_pos (show Int32.ofNat 2 = 2 from rfl), o17, wo_2 v1, i7, bf]
                simp only []
                rw [must_f r.1 r.2.1, gb_bd_s]
              · rw [o16, if_neg (show ¬ Int32.ofNat (so n B (tn n B s)) = 2 from fun z => v1 (so_2.1 (o_inj (j := 2) (by omega) (by omega) z))), must_f r.1 r.2.1, gb_bd_s, o17]
            obtain ⟨rb, P', cd', z1, z2, z3, z4⟩ := RSt_bd r hn
            refine ⟨gb_pi (gb_pi (gb_pi o 77 19 1) 77 18 (Int32.ofNat (tn n B s))) 89 cd.1 (wo n B (tn n B s)).toInt32, by rw [e99, en, gb_bd_s, gb_ck_s (o_in hcd (by omega)), o_cl (by omega), gb_let_s], ⟨(pi_n (by omega)).trans rb.1, (pi_n (by omega)).trans rb.2⟩, P', (cd'.1, cd'.2.1, upd cd'.2.2 cd.1 (wo n B (tn n B s)).toInt32), ⟨(pi_n (by omega)).trans z1.1, PS_fr z1.2 fun k _ => ⟨pi_n (by omega), pi_n (by omega)⟩⟩, ⟨(pi_n (by omega)).trans z2.1, ?_, ?_⟩, z3, z4⟩
            · rw [fn_n (by omega)]; exact z2.2.1
            · rw [fn_e, z2.2.2]
        · rw [if_neg q5]
          cases ord with
          | false =>
            have e3 : f_X11_readPart_99 sh g (Int32.ofNat (k + 1)) 0 (Int32.ofNat (k + 1)) 1 = some (o, 3) := by
              unfold f_X11_readPart_99
              have o20 : o.1 77 20 = 0 := r.2.2.1
              rw [e, gb_bd_s, o20, if_pos rfl]
            exact ⟨o, e3, _, r, rfl, lowu _ _, XR_wordL upe hk9⟩
          | true =>
            have h5 : k < 5 := Nat.lt_of_not_le fun z => q5 ⟨rfl, z⟩
            exact ⟨o, n99 _ _ _ _ _ (Or.inl (by rw [show (6 : Int32) = Int32.ofNat 6 from rfl, o_lt (by omega) (by omega)]; omega)) e, _, r, rfl, lowu _ _, XR_wordO upe h5⟩
