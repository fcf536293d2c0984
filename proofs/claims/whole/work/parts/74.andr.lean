/-! ===== "and", "or": the reference reads so; all of an expression ===== -/
theorem isK_l {n s s1 : Nat} {B : Nat → Int32} (hs1 : 5 ≤ s1 ∧ s1 ≤ 6) (hs : s ≤ n) (h : isK n B s s1) : s + 2 ≤ tn n B s := by
  have hb := stp_b (B := B) hs
  have w := ((wqi _ s hb.1).1 h).1
  have hl : 2 ≤ ((wds s1).getD 0 []).length := by
    have : s1 = 5 ∨ s1 = 6 := by omega
    rcases this with rfl | rfl <;> decide
  have := skp_b (B := B) 400 (stp n B s) hb.2.1
  unfold tn
  omega
/-- pushed, put behind, and the next TOKEN -/
theorem RSt_pe {sh : List gb_Sh} {n s l d op : Nat} {B : Nat → Int32} {ord : Bool} {g : gb_G} {cd : Cd} {P : Pl} (h : RSt n B ord g s l cd P d) (hs : s + 2 ≤ tn n B s) (hn : n ≤ 400) (ho : op ≤ 32) : ∃ o1 o2 o3, f_X11_push sh g (Int32.ofNat op) (g.1 77 23) = some o1 ∧ f_X11_emit sh o1 (Int32.ofNat op) 0 = some o2 ∧ f_X11_next sh o2 = some o3 ∧ RSt n B ord o3 (tn n B s) l (cd.1 + 1, upd cd.2.1 cd.1 (Int32.ofNat op), upd cd.2.2 cd.1 0) ((op, cd.1) :: P) d := by
  have hb := h.2.2.2.2.2.2.2.2.2
  have ht := tn_b (B := B) h.1.2.1
  obtain ⟨o1, e1, c1, c2, c3, c4, c5, c6, c7, c8, c9⟩ := RSt_pu (sh := sh) (op := op) (at' := cd.1) h (by omega) hn ho (by omega)
  obtain ⟨o2, e2, c6'⟩ := emit_m (sh := sh) (x := Int32.ofNat op) (y := 0) c6 (by omega)
  have F := w_X11_emit e2
  obtain ⟨m1, m2, m3, m4, m5, m6⟩ := c1
  have c1' : mS o2 n B s := ⟨⟨(F _ _ (by omega)).1.trans m1.1, fun j hj => (F _ _ (by omega)).1.trans (m1.2 j hj)⟩, m2, (F _ _ (by omega)).1.trans m3, (F _ _ (by omega)).1.trans m4, (F _ _ (by omega)).1.trans m5, (F 77 17 (by omega)).2.1.trans m6⟩
  obtain ⟨o3, e3, c1''⟩ := next_m (sh := sh) hn c1'
  have e := nx_e e3
  obtain ⟨b1, b2, b3⟩ := c6'
  obtain ⟨p1, p2⟩ := c7
  refine ⟨o1, o2, o3, by rw [h.2.2.2.2.2.1.1]; exact e1, e2, e3, c1'', (e _ _ (by omega)).1.trans ((F _ _ (by omega)).1.trans c2), (e _ _ (by omega)).1.trans ((F _ _ (by omega)).1.trans c3), (e _ _ (by omega)).1.trans ((F _ _ (by omega)).1.trans c4), (e _ _ (by omega)).1.trans ((F _ _ (by omega)).1.trans c5), ⟨(e _ _ (by omega)).1.trans b1, (funext fun k => (e 88 k (by omega)).1).trans b2, (funext fun k => (e 89 k (by omega)).1).trans b3⟩, ⟨(e _ _ (by omega)).1.trans ((F _ _ (by omega)).1.trans p1), PS_fr p2 fun k _ => ⟨(e _ _ (by omega)).1.trans (F _ _ (by omega)).1, (e _ _ (by omega)).1.trans (F _ _ (by omega)).1⟩⟩, c8, mvC_fr (mvC_fr c9 fun c k q => F c k (by omega)) fun c k q => e c k (by omega), by rw [List.length_cons]; show cd.1 + 1 + (P.length + 1) ≤ _; omega, hb.2.1, hb.2.2⟩
theorem andr {sh : List gb_Sh} {n s1 op lv d : Nat} {cv : Int32} {B : Nat → Int32} {ord : Bool} {y1 : Int32} {pO : Nat → Nat → Ou} (hn : n ≤ 400) (hs1 : (s1 = 6 ∧ op = 29 ∧ lv = 2 ∧ cv = 0) ∨ (s1 = 5 ∧ op = 30 ∧ lv = 1 ∧ cv = 1)) (hR : ∀ s l, RO sh n B ord y1 (lv + 1) 2 30 (fun _ τ => τ = 0) (Zt y1) d s l (pO s l)) (hV : ∀ s l, s ≤ n → l ≤ 50 → VO n ord s l (pO s l)) (hE : ∀ s l, s ≤ n → l ≤ 50 → EO (fun s' _ => s1 = 5 → ¬ isK n B s' 6) (pO s l)) {g0 : gb_G} {s0 l0 : Nat} {cd0 : Cd} {P : Pl} {τ : Int32} (htop : top P < lv) (hz : Zt y1 P) : ∀ (f s l : Nat) (D : Den) (φ : Bool), n ≤ s + f → RS1 sh n B ord y1 lv 2 30 g0 s0 l0 cd0 P d τ (.inr (s, l, D, φ)) → l0 < l → s0 < s → (s1 = 5 → ¬ isK n B s 6) → RS1 sh n B ord y1 lv 2 30 g0 s0 l0 cd0 P d τ (andL n B s1 cv pO f s l D φ) := by
  intro f
  induction f with
  | zero => intro s l D φ hf h hl hs hk; exact h
  | succ f ih =>
    intro s l D φ hf h hl hs hk6
    rw [andL]
    by_cases q : isK n B s s1
    · rw [if_pos q]
      obtain ⟨r, cd', Q, j, i1, i2, i3, i4, i5, i6, i7, i8⟩ := h
      have hsn := i3.1.2.1
      have hl50 := i3.2.2.2.2.2.2.2.2.2.2.1
      have ht := tn_b (B := B) hsn
      have hlt := isK_l (by omega) hsn q
      have hop : bnd op = lv ∧ (op = 29 ∨ op = 30) ∧ op ≤ 30 ∧ lv ≤ 2 := by
        rcases hs1 with ⟨rfl, rfl, rfl, rfl⟩ | ⟨rfl, rfl, rfl, rfl⟩ <;> decide
      obtain ⟨o2, o3, o4, o5⟩ := hop
      generalize hS : stl lv (Q ++ P) cd' = S at i5 i6 i7 i8
      obtain ⟨SP, cdS⟩ := S
      simp only [] at i5 i6 i7 i8
      subst i5
      obtain ⟨g1, e1, r1⟩ := RSt_se (sh := sh) (lv := lv) i3 hn (by omega)
      rw [hS] at r1
      simp only [] at r1
      obtain ⟨g2, g3, g4, e2, e3, e4, r3⟩ := RSt_pe (sh := sh) (op := op) r1 hlt hn (by omega)
      have eb : f_X11_behindTest sh r = some (g4, 0) := by
        unfold f_X11_behindTest f_X11_behindTest_22 f_X11_behindTest_32 f_X11_behindTest_47 f_X11_behindTest_66
        rcases hs1 with ⟨rfl, rfl, rfl, rfl⟩ | ⟨rfl, rfl, rfl, rfl⟩
        · rw [show (1476 : Int64) = Int64.ofNat (kh 6) from rfl, kw_m hn (by omega) i3.1, if_pos q, bt]
          simp only []
          rw [if_neg (by decide), show (2 : Int32) = Int32.ofNat 2 from rfl, e1, gb_bd_s, if_neg (by decide), show (29 : Int32) = Int32.ofNat 29 from rfl, e2, gb_bd_s, if_neg (by decide), e3, gb_bd_s, e4, gb_bd_s]
        · rw [show (1476 : Int64) = Int64.ofNat (kh 6) from rfl, kw_m hn (by omega) i3.1, if_neg (hk6 rfl), bf]
          simp only []
          rw [show (498 : Int64) = Int64.ofNat (kh 5) from rfl, kw_m hn (by omega) i3.1, if_pos q, bt]
          simp only []
          rw [if_pos trivial, show f_X11_settle sh r 1 = some g1 from e1, gb_bd_s, if_pos trivial, show (30 : Int32) = Int32.ofNat 30 from rfl, e2, gb_bd_s, if_pos trivial, e3, gb_bd_s, e4, gb_bd_s]
      have st : ∀ f, j + 1 ≤ f → rL sh f g0 y1 τ = rL sh (f - (j + 1)) g4 y1 0 := by
        intro f hf
        rw [i2 f (by omega), show f - j = (f - (j + 1)) + 1 by omega, l_bt i3.2.1 eb]
      have hzp : Zt y1 ((op, cdS.1) :: SP) := by
        unfold Zt
        rw [show inv ((op, cdS.1) :: SP) = inv SP from if_neg (by show ¬ 31 ≤ op; omega)]; exact hz
      have qq := hR (tn n B s) l g4 (cdS.1 + 1, upd cdS.2.1 cdS.1 (Int32.ofNat op), upd cdS.2.2 cdS.1 0) ((op, cdS.1) :: SP) 0 r3 (by show bnd op < lv + 1; omega) hzp rfl
      have v := hV (tn n B s) l ht.2.1 hl50
      have ve := hE (tn n B s) l ht.2.1 hl50
      cases ho : pO (tn n B s) l with
      | inl p =>
        rw [ho] at qq
        obtain ⟨x, x1, x2⟩ := qq
        exact ⟨x, x1, fun f hf => by rw [st f (by omega), x2 _ (by omega)]⟩
      | inr x =>
        obtain ⟨s', l', D', φ'⟩ := x
        rw [ho] at qq v ve
        obtain ⟨r', cd'', Q', j', a1, a2, a3, a4, a5, a6, a7, a8⟩ := qq
        obtain ⟨v1, v2, v3, v4, v5, v6⟩ := v
        generalize hS' : stl (lv + 1) (Q' ++ (op, cdS.1) :: SP) cd'' = S' at a5 a6 a7 a8
        obtain ⟨SP', cdS'⟩ := S'
        simp only [] at a5 a6 a7 a8
        subst a5
        have eN : stl lv ((Q' ++ [(op, cdS.1)]) ++ SP) cd'' = (SP, (cdS'.1, cdS'.2.1, upd cdS'.2.2 cdS.1 (Int32.ofNat cdS'.1))) := by
          rw [List.append_assoc, List.singleton_append, stl_2 (lv := lv + 1) (by omega), hS']
          exact ((if_neg (by show ¬ bnd op < lv; omega)).trans (if_pos o3)).trans (stl_n htop)
        have aO : cdS'.2.1 cdS.1 = Int32.ofNat op := (a6 cdS.1 (by show cdS.1 < cdS.1 + 1; omega)).1.trans upe
        refine ih s' l' (Do cv D D') (φ || φ') (by omega) ⟨r', cd'', Q' ++ [(op, cdS.1)], j + 1 + j', by omega, fun f hf => by rw [st f (by omega), a2 _ (by omega), show f - (j + 1) - j' = f - (j + 1 + j') by omega], by rw [List.append_assoc, List.singleton_append]; exact a3, fun q hq => ?_, by rw [eN], ?_, ?_, ?_⟩ (by omega) (by omega) ve
        · rcases List.mem_append.1 hq with z | z
          · exact a4 q z
          · rw [List.mem_singleton.1 z]; exact ⟨by show 20 ≤ op; omega, by show op ≤ 30; omega⟩
        · rw [eN]
          intro i hi
          have b := a6 i (by show i < cdS.1 + 1; omega)
          refine ⟨?_, ?_⟩
          · exact b.1.trans ((upn (by omega)).trans (i6 i hi).1)
          · exact (upn (by omega)).trans (b.2.trans ((upn (by omega)).trans (i6 i hi).2))
        · rw [eN]; show cd0.1 < cdS'.1; omega
        · rw [eN, show l' - l0 = (l - l0) + (l' - l) by omega]
          simp only []
          refine XR_or (m := cdS.1) (i8.eq fun i hi hj => ?_) (a8.eq fun i hi hj => ?_) ?_ upe (by omega) (by omega) (by omega)
          · have b := a6 i (by show i < cdS.1 + 1; omega)
            exact ⟨b.1.trans (upn (by omega)), (upn (by omega)).trans (b.2.trans (upn (by omega)))⟩
          · exact ⟨rfl, upn (by omega)⟩
          · rw [aO]
            rcases hs1 with ⟨-, rfl, -, rfl⟩ | ⟨-, rfl, -, rfl⟩
            · exact Or.inr ⟨rfl, rfl⟩
            · exact Or.inl ⟨rfl, rfl⟩
    · rw [if_neg q]; exact h
theorem andr0 {sh : List gb_Sh} {n s1 op lv d : Nat} {cv : Int32} {B : Nat → Int32} {ord : Bool} {y1 : Int32} {pO : Nat → Nat → Ou} (hn : n ≤ 400) (hs1 : (s1 = 6 ∧ op = 29 ∧ lv = 2 ∧ cv = 0) ∨ (s1 = 5 ∧ op = 30 ∧ lv = 1 ∧ cv = 1)) (hR : ∀ s l, RO sh n B ord y1 (lv + 1) 2 30 (fun _ τ => τ = 0) (Zt y1) d s l (pO s l)) (hV : ∀ s l, s ≤ n → l ≤ 50 → VO n ord s l (pO s l)) (hE : ∀ s l, s ≤ n → l ≤ 50 → EO (fun s' _ => s1 = 5 → ¬ isK n B s' 6) (pO s l)) (s l : Nat) : RO sh n B ord y1 lv 2 30 (fun _ τ => τ = 0) (Zt y1) d s l (andO n B s1 cv pO s l) := by
  intro g cd P τ h htop hz hT
  have q := hR s l g cd P τ h (by omega) hz hT
  have v := hV s l h.1.2.1 h.2.2.2.2.2.2.2.2.2.2.1
  have ve := hE s l h.1.2.1 h.2.2.2.2.2.2.2.2.2.2.1
  unfold andO
  cases ho : pO s l with
  | inl p => rw [ho] at q; exact q
  | inr x =>
    obtain ⟨s', l', D', φ'⟩ := x
    rw [ho] at q v ve
    obtain ⟨r, cd', Q, j, a1, a2, a3, a4, a5, a6, a7, a8⟩ := q
    obtain ⟨v1, v2, v3, v4, v5, v6⟩ := v
    generalize hS : stl (lv + 1) (Q ++ P) cd' = S at a5 a6 a7 a8
    obtain ⟨SP, cdS⟩ := S
    simp only [] at a5 a6 a7 a8
    subst a5
    have eN : stl lv (Q ++ SP) cd' = (SP, cdS) := by
      rw [stl_2 (lv := lv + 1) (by omega), hS]
      exact stl_n htop
    refine andr (op := op) (g0 := g) hn hs1 hR hV hE htop hz 400 s' l' D' φ' (by omega) ⟨r, cd', Q, j, a1, a2, a3, a4, ?_, ?_, ?_, ?_⟩ v3 v1 ve
    · rw [eN]
    · rw [eN]; exact a6
    · rw [eN]; exact a7
    · rw [eN]; exact a8
/-- the reference reads as is told -/
def RDm (sh : List gb_Sh) (n : Nat) (B : Nat → Int32) (ord : Bool) (y1 : Int32) (i d s l : Nat) (o : Ou) : Prop := match i with
  | 0 => RO sh n B ord y1 5 3 24 (Ts n B) (fun _ => True) d s l o
  | 1 => RO sh n B ord y1 6 3 24 (Ts n B) (fun _ => True) d s l o
  | 2 => RO sh n B ord y1 7 3 24 (Ts n B) (fun _ => True) d s l o
  | 3 => RO sh n B ord y1 1 2 30 (fun _ τ => τ = 0) (Zt y1) d s l o
  | 4 => RO sh n B ord y1 2 2 30 (fun _ τ => τ = 0) (Zt y1) d s l o
  | _ => RO sh n B ord y1 3 2 30 (fun _ τ => τ = 0) (Zt y1) d s l o
theorem RD_m {sh : List gb_Sh} {n : Nat} {B : Nat → Int32} {ord : Bool} {y1 : Int32} (hn : n ≤ 400) : ∀ (m i d : Nat), i < 6 → d ≤ 8 → spN i d ≤ m → ∀ s l, RDm sh n B ord y1 i d s l (spO n B ord m i d s l) := by
  intro m
  induction m with
  | zero =>
    intro i d hi hd hm s l
    unfold spN at hm
    split at hm <;> omega
  | succ m ih =>
    intro i d hi hd hm s l
    have hV : ∀ i d s l, s ≤ n → l ≤ 50 → VO n ord s l (spO n B ord m i d s l) := fun i d s l h1 h2 => (spO_v hn m i d s l h1 h2).1
    have hE : ∀ i d s l, s ≤ n → l ≤ 50 → EO (spE n B ord i) (spO n B ord m i d s l) := fun i d s l h1 h2 => (spO_v hn m i d s l h1 h2).2
    have e : i = 0 ∨ i = 1 ∨ i = 2 ∨ i = 3 ∨ i = 4 ∨ i = 5 := by omega
    rcases e with rfl | rfl | rfl | rfl | rfl | rfl
    · rw [spO]
      exact binr0 hn (Or.inl ⟨rfl, rfl, rfl⟩) (fun _ => trivial) (ih 1 d (by omega) hd (by simp only [spN] at hm ⊢; omega)) (hV 1 d) s l
    · rw [spO]
      exact binr0 hn (Or.inr ⟨rfl, rfl, rfl⟩) (fun _ => trivial) (ih 2 d (by omega) hd (by simp only [spN] at hm ⊢; omega)) (hV 2 d) s l
    · rw [spO]
      exact part_m hn (fun _ => trivial) (fun h => ih 0 (d + 1) (by omega) (by omega) (by simp only [spN] at hm ⊢; omega)) (hV 0 (d + 1)) (hE 0 (d + 1)) s l
    · rw [spO]
      exact andr0 hn (Or.inr ⟨rfl, rfl, rfl, rfl⟩) (ih 4 d (by omega) hd (by simp only [spN] at hm ⊢; omega)) (hV 4 d) (fun s l h1 h2 => EO_mo (hE 4 d s l h1 h2) fun s D z _ => z.2) s l
    · rw [spO]
      exact andr0 hn (Or.inl ⟨rfl, rfl, rfl, rfl⟩) (ih 5 d (by omega) hd (by simp only [spN] at hm ⊢; omega)) (hV 5 d) (fun s l h1 h2 => EO_mo (hE 5 d s l h1 h2) fun s D z q => by omega) s l
    · rw [spO]
      exact plain_m hn (fun _ => trivial) (ih 0 d (by omega) hd (by simp only [spN] at hm ⊢; omega)) (hV 0 d) (hE 0 d) (fun h => ih 3 (d + 1) (by omega) (by omega) (by simp only [spN] at hm ⊢; omega)) (hV 3 (d + 1)) (hE 3 (d + 1)) s l
