/-! ===== a PLAIN test: the reference reads so ===== -/
theorem stl_c {lv : Nat} {q : Nat × Nat} {r : Pl} {s : Cd} (h : lv ≤ bnd q.1) (h2 : ¬ (q.1 = 29 ∨ q.1 = 30)) : stl lv (q :: r) s = stl lv r (s.1 + 1, upd s.2.1 s.1 (Int32.ofNat q.1), upd s.2.2 s.1 0) := (if_neg (by omega)).trans (if_neg h2)
theorem bt_n {sh : List gb_Sh} {n s : Nat} {B : Nat → Int32} {g : gb_G} (hn : n ≤ 400) (h : mS g n B s) (h6 : ¬ isK n B s 6) (h5 : ¬ isK n B s 5) : f_X11_behindTest sh g = gb_bd (f_X11_inner sh g) (fun r13 => if r13.2 = (-1) then (some (r13.1, 4)) else (gb_bd (f_X11_isSign sh r13.1 41) (fun r15 => gb_bd (f_X11_must sh r15.1 r15.2) (fun r17 => if (r17.1 77 19) = 0 then (gb_bd (f_X11_settle sh r17 1) (fun r19 => gb_let (gb_pi r19 77 29 ((r19.1 77 29) - 1)) (fun g21 => gb_let (gb_pi g21 77 30 ((g21.1 77 30) - 1)) (fun g22 => some (g22, 2))))) else (some (r17, 2)))))) := by
  unfold f_X11_behindTest
  rw [show (1476 : Int64) = Int64.ofNat (kh 6) from rfl, kw_m hn (by omega) h, if_neg h6, bf]
  simp only []
  rw [show (498 : Int64) = Int64.ofNat (kh 5) from rfl, kw_m hn (by omega) h, if_neg h5, bf]
theorem plain_m {sh : List gb_Sh} {n d : Nat} {B : Nat → Int32} {ord : Bool} {y1 : Int32} {sO tO : Nat → Nat → Ou} {Z : Pl → Prop} (hn : n ≤ 400) (hZ : ∀ P, Z P) (hR : ∀ s l, RO sh n B ord y1 5 3 24 (Ts n B) Z d s l (sO s l)) (hV : ∀ s l, s ≤ n → l ≤ 50 → VO n ord s l (sO s l)) (hE : ∀ s l, s ≤ n → l ≤ 50 → EO (fun s' _ => sx n B s' 10 = none ∧ sx n B s' 9 = none) (sO s l)) (hT : d < 8 → ∀ s l, RO sh n B ord y1 1 2 30 (fun _ τ => τ = 0) (Zt y1) (d + 1) s l (tO s l)) (hVT : ∀ s l, s ≤ n → l ≤ 50 → VO n ord s l (tO s l)) (hET : ∀ s l, s ≤ n → l ≤ 50 → EO (fun s' D => TD (nW ord) D ∧ ¬ isK n B s' 6 ∧ ¬ isK n B s' 5) (tO s l)) (s l : Nat) : RO sh n B ord y1 3 2 30 (fun _ τ => τ = 0) (Zt y1) d s l (plainO n B sO tO d s l) := by
  intro g cd P τ h htop hz hτ
  have hτ' : τ = 0 := hτ
  subst hτ'
  have hsn := h.1.2.1
  have hl50 := h.2.2.2.2.2.2.2.2.2.2.1
  have hb := nts_b (B := B) 400 s hsn
  obtain ⟨g1, h1, st1⟩ := nots_m (sh := sh) (y1 := y1) (P := P) hn 400 s 0 g h
  unfold plainO
  generalize hq : nts n B 400 s = qq at *
  obtain ⟨s1, k⟩ := qq
  simp only [Nat.add_zero] at hb h1 st1 ⊢
  obtain ⟨b1, b2, b3, b4⟩ := hb
  have b4 := b4 (by omega)
  have ht := tn_b (B := B) b2
  have hP3 : top (Nk k ++ P) < 4 := top_N (by omega) (by omega)
  have hP5 : top (Nk k ++ P) < 5 := by omega
  have iN : inv (Nk k ++ P) = inv P := inv_N
  by_cases q : isG n B s1 40
  · have hlt := ht.2.2 q.1
    rw [if_pos q]
    have e0 : f_X11_readPlain sh g1 = gb_bd (f_X11_openBracket sh g1 (Int32.ofNat 31)) (fun r7 => some (r7, 0)) := by
      unfold f_X11_readPlain
      rw [show (14836 : Int64) = Int64.ofNat (kh 7) from rfl, kw_m hn (by omega) h1.1, if_neg b4, bf]
      simp only []
      rw [sg_m h1.1 (by decide), if_pos q, bt]; rfl
    by_cases q8 : 8 ≤ d
    · rw [if_pos q8]
      rw [ob_f h1 q8, gb_bd_s] at e0
      obtain ⟨o, o1, o2⟩ := rbd (sh := sh) (y1 := y1) (t := 0) (RSt_bd h1 hn)
      refine ⟨o, o1, fun f hf => ?_⟩
      rw [st1 f (by omega), show f - k = (f - (k + 1)) + 1 by omega, l_pl h1.2.1 e0]
      exact o2 _ (by omega)
    · rw [if_neg q8]
      obtain ⟨g2, e2, h2⟩ := ob_t (sh := sh) (op := 31) h1 hn q.1 (by omega) (by omega)
      rw [e2, gb_bd_s] at e0
      have st : ∀ f, k + 1 ≤ f → rL sh f g y1 0 = rL sh (f - (k + 1)) g2 y1 0 := fun f hf => by
        rw [st1 f (by omega), show f - k = (f - (k + 1)) + 1 by omega, l_pl h1.2.1 e0]
      have i31 : inv ((31, 0) :: (Nk k ++ P)) = 31 := rfl
      have r := hT (by omega) (tn n B s1) l g2 cd ((31, 0) :: (Nk k ++ P)) 0 h2 (by show bnd 31 < 1; decide) ⟨by rw [i31]; decide, fun z => by rw [i31] at z; exact absurd z (by decide)⟩ rfl
      have v := hVT (tn n B s1) l ht.2.1 hl50
      have ee := hET (tn n B s1) l ht.2.1 hl50
      cases ho : tO (tn n B s1) l with
      | inl p =>
        rw [ho] at r
        obtain ⟨x, x1, x2⟩ := r
        exact ⟨x, x1, fun f hf => by rw [st f (by omega), x2 _ (by omega)]⟩
      | inr x =>
        obtain ⟨s', l', D, φ⟩ := x
        rw [ho] at r v ee
        obtain ⟨r', cd', Q, j, a1, a2, a3, a4, a5, a6, a7, a8⟩ := r
        obtain ⟨v1, v2, v3, v4, v5, v6⟩ := v
        have hd8 := a3.2.2.2.2.2.2.2.2.2
        have st2 : ∀ f, k + 1 + j ≤ f → rL sh f g y1 0 = rL sh (f - (k + 1 + j)) r' y1 2 := fun f hf => by rw [st f (by omega), a2 _ (by omega), show f - (k + 1) - j = f - (k + 1 + j) by omega]
        have ei : f_X11_inner sh r' = some (r', 31) := by
          have hlen : (Q ++ (31, 0) :: (Nk k ++ P)).length ≤ 400 := by omega
          have := inn_m (sh := sh) a3.2.2.2.2.2.2.1 a3.2.2.2.2.2.2.2.1 hlen
          rw [inv_q (by decide) Q fun q hq => (a4 q hq).2] at this
          exact this
        have eb := bt_n (sh := sh) hn a3.1 ee.2.1 ee.2.2
        rw [ei, gb_bd_s] at eb
        simp only [] at eb
        rw [if_neg (by decide)] at eb
        generalize hS : stl 1 (Q ++ (31, 0) :: (Nk k ++ P)) cd' = S at a5 a6 a7 a8
        obtain ⟨SP, cdS⟩ := S
        simp only [] at a5 a6 a7 a8
        subst a5
        show RS1 sh n B ord y1 3 2 30 g s l cd P d 0 (if isG n B s' 41 then .inr (tn n B s', l', Dk k D, φ) else .inl s')
        by_cases z : isG n B s' 41
        · rw [if_pos z]
          have ht' := tn_b (B := B) v2
          have hlt' := ht'.2.2 z.1
          obtain ⟨g3, e3, m3, e3'⟩ := must_t (sh := sh) (x := 1) hn a3.1 a3.2.1 (by decide)
          have c1 := RSt_nx a3 m3 ht'.1 (nx_e e3')
          obtain ⟨g4, e4, c2⟩ := RSt_se (sh := sh) (lv := 1) c1 hn (by omega)
          rw [hS] at c2
          simp only [] at c2
          obtain ⟨c3, c4⟩ := cl_t c2
          rw [sg_m a3.1 (by decide), if_pos z, gb_bd_s] at eb
          simp only [] at eb
          rw [e3, gb_bd_s, if_pos c1.2.1, show (1 : Int32) = Int32.ofNat 1 from rfl, e4, gb_bd_s, gb_let_s, gb_let_s, ← show (1 : Int32) = Int32.ofNat 1 from rfl, c3] at eb
          obtain ⟨n1, n2, n3, n4⟩ := not_k htop k cdS D (by omega) (by omega) ee.1 a8
          refine ⟨_, cdS, Nk k, k + 1 + j + 1, by omega, fun f hf => by rw [st2 f (by omega), show f - (k + 1 + j) = (f - (k + 1 + j + 1)) + 1 by omega, l_bt a3.2.1 eb], c4, fun q hq => by rw [Nk_m hq]; decide, n1, a6.tr n2 (by omega), by omega, n4⟩
        · rw [if_neg z]
          rw [sg_m a3.1 (by decide), if_neg z, gb_bd_s] at eb
          simp only [] at eb
          rw [must_f a3.1 a3.2.1, gb_bd_s, show (gb_pi (gb_pi r' 77 19 1) 77 18 (Int32.ofNat s')).1 77 19 = 1 from (pi_n (by omega)).trans pi_e, if_neg (by decide)] at eb
          obtain ⟨o, o1, o2⟩ := rbd (sh := sh) (y1 := y1) (t := 2) (RSt_bd a3 hn)
          refine ⟨o, o1, fun f hf => ?_⟩
          rw [st2 f (by omega), show f - (k + 1 + j) = (f - (k + 1 + j + 1)) + 1 by omega, l_bt a3.2.1 eb]
          exact o2 _ (by omega)
  · rw [if_neg q]
    have r := hR s1 l g1 cd (Nk k ++ P) 0 h1 hP5 (hZ _) (Or.inr ⟨rfl, b4, q⟩)
    have v := hV s1 l b2 hl50
    have ee := hE s1 l b2 hl50
    cases ho : sO s1 l with
    | inl p =>
      rw [ho] at r
      obtain ⟨x, x1, x2⟩ := r
      exact ⟨x, x1, fun f hf => by rw [st1 f (by omega), x2 _ (by omega)]⟩
    | inr x =>
      obtain ⟨s', l', D, φ⟩ := x
      rw [ho] at r v ee
      obtain ⟨r', cd', Q, j, a1, a2, a3, a4, a5, a6, a7, a8⟩ := r
      obtain ⟨v1, v2, v3, v4, v5, v6⟩ := v
      have ht' := tn_b (B := B) v2
      have st2 : ∀ f, k + j ≤ f → rL sh f g y1 0 = rL sh (f - (k + j)) r' y1 3 := fun f hf => by rw [st1 f (by omega), a2 _ (by omega), show f - k - j = f - (k + j) by omega]
      have hzQ : Zt y1 (Q ++ (Nk k ++ P)) := by
        unfold Zt
        rw [inv_a Q fun q hq => by have := (a4 q hq).2; omega, iN]; exact hz
      have hcQ : ¬ cmpd (Q ++ (Nk k ++ P)) := fun z => cmpd_n hP3 ((cmpd_a Q a4).1 z)
      obtain ⟨c1, c2⟩ := bs_cmp (sh := sh) hn a3 ee.2 ee.1 hzQ hcQ
      simp only []
      cases hx : sx n B s' 8 with
      | none =>
        obtain ⟨o, o1, o2⟩ := rbd (sh := sh) (y1 := y1) (t := 1) (RSt_bd a3 hn)
        refine ⟨o, o1, fun f hf => ?_⟩
        rw [st2 f (by omega), show f - (k + j) = (f - (k + j + 1)) + 1 by omega, l_bs a3.2.1 (c1 hx)]
        exact o2 _ (by omega)
      | some i =>
        obtain ⟨k1, k2, -⟩ := sx_b hx
        have i3 : i < 3 := k2
        have hlt' := ht'.2.2 k1
        obtain ⟨o, e, c3⟩ := c2 i hx
        generalize hS : stl 5 (Q ++ (Nk k ++ P)) cd' = S at a5 a6 a7 a8 c3
        obtain ⟨SP, cdS⟩ := S
        simp only [] at a5 a6 a7 a8 c3
        subst a5
        have st3 : ∀ f, k + j + 1 ≤ f → rL sh f g y1 0 = rL sh (f - (k + j + 1)) o y1 1 := fun f hf => by rw [st2 f (by omega), show f - (k + j) = (f - (k + j + 1)) + 1 by omega, l_bs a3.2.1 e]
        have bi : bnd (25 + i) = 4 := by
          have : i = 0 ∨ i = 1 ∨ i = 2 := by omega
          rcases this with rfl | rfl | rfl <;> decide
        have r2 := hR (tn n B s') l' o cdS ((25 + i, 0) :: (Nk k ++ P)) 1 c3 (by show bnd (25 + i) < 5; omega) (hZ _) (Or.inl rfl)
        have w := hV (tn n B s') l' ht'.2.1 v4
        have ew := hE (tn n B s') l' ht'.2.1 v4
        simp only []
        cases ho' : sO (tn n B s') l' with
        | inl p =>
          rw [ho'] at r2
          obtain ⟨x, x1, x2⟩ := r2
          exact ⟨x, x1, fun f hf => by rw [st3 f (by omega), x2 _ (by omega)]⟩
        | inr x =>
          obtain ⟨s'', l'', D', φ'⟩ := x
          rw [ho'] at r2 w ew
          obtain ⟨r'', cd'', Q', j', d1, d2, d3, d4, d5, d6, d7, d8⟩ := r2
          obtain ⟨w1, w2, w3, w4, w5, w6⟩ := w
          have hz2 : Zt y1 (Q' ++ (25 + i, 0) :: (Nk k ++ P)) := by
            unfold Zt
            rw [inv_a Q' fun q hq => by have := (d4 q hq).2; omega, show inv ((25 + i, 0) :: (Nk k ++ P)) = inv (Nk k ++ P) from if_neg (by show ¬ 31 ≤ 25 + i; omega), iN]; exact hz
          have hc2 : cmpd (Q' ++ (25 + i, 0) :: (Nk k ++ P)) := (cmpd_a Q' d4).2 (by
            rw [show cmpd ((25 + i, 0) :: (Nk k ++ P)) = if 20 ≤ 25 + i ∧ 25 + i ≤ 24 then cmpd (Nk k ++ P) else 25 ≤ 25 + i ∧ 25 + i ≤ 27 from rfl, if_neg (by omega)]; omega)
          have et := bs_told (sh := sh) hn d3 ew.2 ew.1 hz2 hc2
          generalize hS' : stl 5 (Q' ++ (25 + i, 0) :: (Nk k ++ P)) cd'' = S' at d5 d6 d7 d8
          obtain ⟨SP', cdS'⟩ := S'
          simp only [] at d5 d6 d7 d8
          subst d5
          have x1 : XR ord (upd cdS'.2.1 cdS'.1 (Int32.ofNat (25 + i))) (upd cdS'.2.2 cdS'.1 0) (nW ord) cd.1 (cdS'.1 + 1) (l'' - l) (Db (5 + i) D D') := by
            rw [show l'' - l = (l' - l) + (l'' - l') by omega]
            refine XR_bin (m := cdS.1) (a8.eq fun i hi hj => ?_) (d8.eq fun i hi hj => ?_) v5 w5 (by rw [upe, show 25 + i = 20 + (5 + i) by omega]) (by omega) (by omega) (by omega) (by omega) (by omega)
            · rw [upn (by omega), upn (by omega)]; exact d6 i hj
            · rw [upn (by omega), upn (by omega)]; exact ⟨rfl, rfl⟩
          obtain ⟨n1, n2, n3, n4⟩ := not_k htop k (cdS'.1 + 1, upd cdS'.2.1 cdS'.1 (Int32.ofNat (25 + i)), upd cdS'.2.2 cdS'.1 0) (Db (5 + i) D D') (by show cd.1 ≤ cdS'.1 + 1; omega) (by omega) (TD_b (by omega)) x1
          have eN : stl 3 ((Q' ++ (25 + i, 0) :: Nk k) ++ P) cd'' = stl 3 (Nk k ++ P) (cdS'.1 + 1, upd cdS'.2.1 cdS'.1 (Int32.ofNat (25 + i)), upd cdS'.2.2 cdS'.1 0) := by
            rw [List.append_assoc, List.cons_append, stl_2 (lv := 5) (by omega), hS']
            exact stl_c (by show 3 ≤ bnd (25 + i); omega) (by show ¬ (25 + i = 29 ∨ 25 + i = 30); omega)
          refine ⟨r'', cd'', Q' ++ (25 + i, 0) :: Nk k, k + j + 1 + j' + 1, by omega, fun f hf => ?_, by rw [List.append_assoc, List.cons_append]; exact d3, fun q hq => ?_, by rw [eN]; exact n1, ?_, ?_, by rw [eN]; exact n4⟩
          · rw [st3 f (by omega), d2 _ (by omega), show f - (k + j + 1) - j' = (f - (k + j + 1 + j' + 1)) + 1 by omega, l_bs d3.2.1 et]
          · rcases List.mem_append.1 hq with z | z
            · have := d4 q z; omega
            · rcases List.mem_cons.1 z with y | y
              · rw [y]; exact ⟨by show 20 ≤ 25 + i; omega, by show 25 + i ≤ 30; omega⟩
              · rw [Nk_m y]; decide
          · rw [eN]
            exact ((a6.tr d6 (by omega)).tr (fun i hi => ⟨upn (by omega), upn (by omega)⟩) (by omega)).tr n2 (by show cd.1 ≤ cdS'.1 + 1; omega)
          · rw [eN]; simp only [] at n3; omega
