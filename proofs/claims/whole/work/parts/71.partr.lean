/-! ===== a PART in the reference ===== -/
theorem inv_q {q0 : Nat × Nat} {P : Pl} (h0 : 31 ≤ q0.1) : ∀ (Q : Pl), (∀ q ∈ Q, q.1 ≤ 30) → inv (Q ++ q0 :: P) = Int32.ofNat q0.1 := by
  intro Q
  induction Q with
  | nil => intro _; exact if_pos h0
  | cons q r ih =>
    intro h
    have hq := h q (List.mem_cons_self ..)
    exact (if_neg (by omega)).trans (ih fun v hv => h v (List.mem_cons_of_mem _ hv))
theorem inv_a {P : Pl} : ∀ (Q : Pl), (∀ q ∈ Q, q.1 ≤ 30) → inv (Q ++ P) = inv P := by
  intro Q
  induction Q with
  | nil => intro _; rfl
  | cons q r ih =>
    intro h
    have hq := h q (List.mem_cons_self ..)
    exact (if_neg (by omega)).trans (ih fun v hv => h v (List.mem_cons_of_mem _ hv))
/-- a bracket is opened -/
theorem ob_t {sh : List gb_Sh} {n s l d op : Nat} {B : Nat → Int32} {ord : Bool} {g : gb_G} {cd : Cd} {P : Pl} (h : RSt n B ord g s l cd P d) (hn : n ≤ 400) (hs : s < n) (hd : d < 8) (hop : op ≤ 32) : ∃ o, f_X11_openBracket sh g (Int32.ofNat op) = some o ∧ RSt n B ord o (tn n B s) l cd ((op, 0) :: P) (d + 1) := by
  have ht := tn_b (B := B) h.1.2.1
  have hlt := ht.2.2 hs
  obtain ⟨g1, e1, m1, e1'⟩ := must_t (sh := sh) (x := 1) hn h.1 h.2.1 (by decide)
  have h1 : RSt n B ord g1 (tn n B s) l cd P d := RSt_nx h m1 ht.1 (nx_e e1')
  have hc := h.2.2.2.2.2.2.2.2.2.1
  have h2 : RSt n B ord (gb_pi g1 77 30 (Int32.ofNat (d + 1))) (tn n B s) l cd P (d + 1) := by
    obtain ⟨a1, a2, a3, a4, a5, ⟨b1, b2, b3⟩, ⟨p1, p2⟩, a8, a9, a10, a11, a12⟩ := h1
    obtain ⟨m1, m2, m3, m4, m5, m6⟩ := a1
    refine ⟨⟨⟨(pi_n (by omega)).trans m1.1, fun j hj => (pi_n (by omega)).trans (m1.2 j hj)⟩, m2, (pi_n (by omega)).trans m3, (pi_n (by omega)).trans m4, (pi_n (by omega)).trans m5, m6⟩, (pi_n (by omega)).trans a2, (pi_n (by omega)).trans a3, (pi_n (by omega)).trans a4, pi_e, ⟨(pi_n (by omega)).trans b1, ?_, ?_⟩, ⟨(pi_n (by omega)).trans p1, PS_fr p2 fun k _ => ⟨pi_n (by omega), pi_n (by omega)⟩⟩, a8, mvC_fr a9 fun c k q => ⟨pi_n (by omega), rfl, rfl⟩, a10, a11, by omega⟩
    · rw [fn_n (by omega)]; exact b2
    · rw [fn_n (by omega)]; exact b3
  obtain ⟨o, e2, h3⟩ := RSt_np (sh := sh) (op := op) (at' := 0) h2 (by omega) hn hop (by omega)
  refine ⟨o, ?_, h3⟩
  unfold f_X11_openBracket f_X11_openBracket_15
  rw [h.2.2.2.2.1, if_neg (by rw [show (8 : Int32) = Int32.ofNat 8 from rfl, o_le (by omega) (by omega)]; omega), e1, gb_bd_s, if_pos h1.2.1, gb_let_s, h1.2.2.2.2.1, o_succ, show (0 : Int32) = Int32.ofNat 0 from rfl, e2, gb_bd_s]
theorem ob_f {sh : List gb_Sh} {n s l d : Nat} {B : Nat → Int32} {ord : Bool} {g : gb_G} {cd : Cd} {P : Pl} {x : Int32} (h : RSt n B ord g s l cd P d) (hd : 8 ≤ d) : f_X11_openBracket sh g x = some (gb_pi (gb_pi g 77 19 1) 77 18 (Int32.ofNat s)) := by
  have hd8 := h.2.2.2.2.2.2.2.2.2.2.2
  unfold f_X11_openBracket f_X11_openBracket_15
  rw [h.2.2.2.2.1, if_pos (by rw [show (8 : Int32) = Int32.ofNat 8 from rfl, o_le (by omega) (by omega)]; omega), must_f h.1 h.2.1, gb_bd_s, show (gb_pi (gb_pi g 77 19 1) 77 18 (Int32.ofNat s)).1 77 19 = 1 from (pi_n (by omega)).trans pi_e, if_neg (by decide)]
/-- a bracket is closed: the pile's top goes -/
theorem cl_t {n s l d : Nat} {B : Nat → Int32} {ord : Bool} {g : gb_G} {cd : Cd} {P : Pl} {q : Nat × Nat} (h : RSt n B ord g s l cd (q :: P) (d + 1)) : gb_pi (gb_pi g 77 29 (g.1 77 29 - 1)) 77 30 ((gb_pi g 77 29 (g.1 77 29 - 1)).1 77 30 - 1) = gb_pi (gb_pi g 77 29 (Int32.ofNat P.length)) 77 30 (Int32.ofNat d) ∧ RSt n B ord (gb_pi (gb_pi g 77 29 (Int32.ofNat P.length)) 77 30 (Int32.ofNat d)) s l cd P d := by
  obtain ⟨a1, a2, a3, a4, a5, ⟨b1, b2, b3⟩, ⟨p1, p2⟩, a8, a9, a10, a11, a12⟩ := h
  refine ⟨?_, ?_⟩
  · rw [p1, List.length_cons, o_pred, show (gb_pi g 77 29 (Int32.ofNat P.length)).1 77 30 = Int32.ofNat (d + 1) from (pi_n (by omega)).trans a5, o_pred]
  · obtain ⟨m1, m2, m3, m4, m5, m6⟩ := a1
    have pn : ∀ c k, ¬ (c = 77 ∧ (k = 29 ∨ k = 30)) → (gb_pi (gb_pi g 77 29 (Int32.ofNat P.length)) 77 30 (Int32.ofNat d)).1 c k = g.1 c k := fun c k h => (pi_n (by omega)).trans (pi_n (by omega))
    rw [List.length_cons] at a10
    refine ⟨⟨⟨(pn _ _ (by omega)).trans m1.1, fun j hj => (pn _ _ (by omega)).trans (m1.2 j hj)⟩, m2, (pn _ _ (by omega)).trans m3, (pn _ _ (by omega)).trans m4, (pn _ _ (by omega)).trans m5, m6⟩, (pn _ _ (by omega)).trans a2, (pn _ _ (by omega)).trans a3, (pn _ _ (by omega)).trans a4, pi_e, ⟨(pn _ _ (by omega)).trans b1, ?_, ?_⟩, ⟨(pi_n (by omega)).trans pi_e, PS_fr p2.2.2 fun k _ => ⟨pn _ _ (by omega), pn _ _ (by omega)⟩⟩, fun v hv => a8 v (List.mem_cons_of_mem _ hv), mvC_fr a9 fun c k q => ⟨pn _ _ (by omega), rfl, rfl⟩, by omega, a11, by omega⟩
    · rw [fn_n (by omega), fn_n (by omega)]; exact b2
    · rw [fn_n (by omega), fn_n (by omega)]; exact b3
theorem rbd {sh : List gb_Sh} {g : gb_G} {p : Nat} {y1 t : Int32} (h : RBd g p) : ∃ o, RB o p ∧ ∀ f, 1 ≤ f → rL sh f g y1 t = some o := by
  obtain ⟨h1, P, cd, h2, h3, h4, h5⟩ := h
  exact r_bad h1 h2 h3 h4 h5
theorem part_m {sh : List gb_Sh} {n d : Nat} {B : Nat → Int32} {ord : Bool} {y1 : Int32} {sO : Nat → Nat → Ou} {Z : Pl → Prop} (hn : n ≤ 400) (hZ : ∀ P, Z P) (hR : d < 8 → ∀ s l, RO sh n B ord y1 5 3 24 (Ts n B) Z (d + 1) s l (sO s l)) (hV : ∀ s l, s ≤ n → l ≤ 50 → VO n ord s l (sO s l)) (hE : ∀ s l, s ≤ n → l ≤ 50 → EO (fun s' _ => sx n B s' 10 = none ∧ sx n B s' 9 = none) (sO s l)) (s l : Nat) : RO sh n B ord y1 7 3 24 (Ts n B) Z d s l (partO n B ord sO d s l) := by
  intro g cd P τ h htop hz hT
  have hsn := h.1.2.1
  have hl50 := h.2.2.2.2.2.2.2.2.2.2.1
  have t7 : ∀ (P : Pl) (cd : Cd), stl 7 P cd = (P, cd) := fun P cd => stl_n (by cases P with | nil => decide | cons q r => exact Nat.lt_of_le_of_lt (bnd_6 q.1) (by decide))
  unfold partO
  by_cases q : isG n B s 91
  · have ht := tn_b (B := B) hsn
    have hlt := ht.2.2 q.1
    rw [if_pos q]
    have e0 : f_X11_readPart sh g = gb_bd (f_X11_openBracket sh g (Int32.ofNat 32)) (fun r13 => some (r13, 1)) := by
      unfold f_X11_readPart
      rw [sg_m h.1 (by decide), if_pos q, bt]; rfl
    by_cases q8 : 8 ≤ d
    · rw [if_pos q8]
      rw [ob_f h q8, gb_bd_s] at e0
      obtain ⟨o, o1, o2⟩ := rbd (sh := sh) (y1 := y1) (t := 1) (RSt_bd h hn)
      refine ⟨o, o1, fun f hf => ?_⟩
      obtain ⟨f', rfl⟩ : ∃ f', f = f' + 1 := ⟨f - 1, by omega⟩
      rw [l_ts hn h.1 h.2.1 hT e0]
      exact o2 f' (by omega)
    · rw [if_neg q8]
      obtain ⟨g1, e1, h1⟩ := ob_t (sh := sh) (op := 32) h hn q.1 (by omega) (by omega)
      rw [e1, gb_bd_s] at e0
      have st : ∀ f, 1 ≤ f → rL sh f g y1 τ = rL sh (f - 1) g1 y1 1 := by
        intro f hf
        obtain ⟨f', rfl⟩ : ∃ f', f = f' + 1 := ⟨f - 1, by omega⟩
        rw [l_ts hn h.1 h.2.1 hT e0]; rfl
      have r := hR (by omega) (tn n B s) l g1 cd ((32, 0) :: P) 1 h1 (by show bnd 32 < 5; decide) (hZ _) (Or.inl rfl)
      have v := hV (tn n B s) l ht.2.1 hl50
      have ee := hE (tn n B s) l ht.2.1 hl50
      cases ho : sO (tn n B s) l with
      | inl p =>
        rw [ho] at r
        obtain ⟨x, x1, x2⟩ := r
        exact ⟨x, x1, fun f hf => by rw [st f (by omega), x2 _ (by omega)]⟩
      | inr x =>
        obtain ⟨s', l', D, φ⟩ := x
        rw [ho] at r v ee
        obtain ⟨r', cd', Q, j, a1, a2, a3, a4, a5, a6, a7, a8⟩ := r
        obtain ⟨v1, v2, v3, v4, v5, v6⟩ := v
        have hd8 := a3.2.2.2.2.2.2.2.2.2
        have st2 : ∀ f, j + 1 ≤ f → rL sh f g y1 τ = rL sh (f - (j + 1)) r' y1 3 := fun f hf => by rw [st f (by omega), a2 _ (by omega), show f - 1 - j = f - (j + 1) by omega]
        have ei : f_X11_inner sh r' = some (r', 32) := by
          have hlen : (Q ++ (32, 0) :: P).length ≤ 400 := by omega
          have := inn_m (sh := sh) a3.2.2.2.2.2.2.1 a3.2.2.2.2.2.2.2.1 hlen
          rw [inv_q (by decide) Q fun q hq => by have := (a4 q hq).2; omega] at this
          exact this
        have eb : f_X11_behindSum sh r' y1 = gb_bd (f_X11_isSign sh r' 93) (fun r27 => gb_bd (f_X11_must sh r27.1 r27.2) (fun r29 => if (r29.1 77 19) = 0 then (gb_bd (f_X11_settle sh r29 5) (fun r31 => gb_let (gb_pi r31 77 29 ((r31.1 77 29) - 1)) (fun g33 => gb_let (gb_pi g33 77 30 ((g33.1 77 30) - 1)) (fun g34 => some (g34, 3))))) else (some (r29, 3)))) := by
          rw [bs_n a3.1 ee.2 ee.1]
          unfold f_X11_behindSum_71
          rw [if_pos rfl, ei, gb_bd_s, if_pos rfl]
        generalize hS : stl 5 (Q ++ (32, 0) :: P) cd' = S at a5 a6 a7 a8
        obtain ⟨SP, cdS⟩ := S
        simp only [] at a5 a6 a7 a8
        subst a5
        show RS1 sh n B ord y1 7 3 24 g s l cd P d τ (if isG n B s' 93 then .inr (tn n B s', l', D, φ) else .inl s')
        by_cases z : isG n B s' 93
        · rw [if_pos z]
          have ht' := tn_b (B := B) v2
          have hlt' := ht'.2.2 z.1
          obtain ⟨g2, e2, m2, e2'⟩ := must_t (sh := sh) (x := 1) hn a3.1 a3.2.1 (by decide)
          have b1 := RSt_nx a3 m2 ht'.1 (nx_e e2')
          obtain ⟨g3, e3, b2⟩ := RSt_se (sh := sh) (lv := 5) b1 hn (by omega)
          rw [hS] at b2
          simp only [] at b2
          obtain ⟨c1, c2⟩ := cl_t b2
          rw [sg_m a3.1 (by decide), if_pos z, gb_bd_s] at eb
          simp only [] at eb
          rw [e2, gb_bd_s, if_pos b1.2.1, show (5 : Int32) = Int32.ofNat 5 from rfl, e3, gb_bd_s, gb_let_s, gb_let_s, c1] at eb
          refine ⟨_, cdS, [], j + 2, by omega, fun f hf => by rw [st2 f (by omega), show f - (j + 1) = (f - (j + 2)) + 1 by omega, l_bs a3.2.1 eb], c2, fun q hq => (nomatch hq), ?_, ?_, ?_, ?_⟩
          · rw [t7]; try rfl
          · rw [t7]; exact a6
          · rw [t7]; exact a7
          · rw [t7]; exact a8
        · rw [if_neg z]
          rw [sg_m a3.1 (by decide), if_neg z, gb_bd_s] at eb
          simp only [] at eb
          rw [must_f a3.1 a3.2.1, gb_bd_s, show (gb_pi (gb_pi r' 77 19 1) 77 18 (Int32.ofNat s')).1 77 19 = 1 from (pi_n (by omega)).trans pi_e, if_neg (by decide)] at eb
          obtain ⟨o, o1, o2⟩ := rbd (sh := sh) (y1 := y1) (t := 3) (RSt_bd a3 hn)
          refine ⟨o, o1, fun f hf => ?_⟩
          rw [st2 f (by omega), show f - (j + 1) = (f - (j + 2)) + 1 by omega, l_bs a3.2.1 eb]
          exact o2 _ (by omega)
  · rw [if_neg q]
    obtain ⟨r, e, k⟩ := lf_m (sh := sh) h hn q
    have v := lfO_v (B := B) (ord := ord) hsn hl50
    cases ho : lfO n B ord s l with
    | inl p =>
      rw [ho] at k
      obtain ⟨o, o1, o2⟩ := rbd (sh := sh) (y1 := y1) (t := 3) k
      refine ⟨o, o1, fun f hf => ?_⟩
      obtain ⟨f', rfl⟩ : ∃ f', f = f' + 1 := ⟨f - 1, by omega⟩
      rw [l_ts hn h.1 h.2.1 hT e]
      exact o2 f' (by omega)
    | inr x =>
      obtain ⟨s', l', D, φ⟩ := x
      rw [ho] at k v
      obtain ⟨cd', k1, k2, k3, k4⟩ := k
      obtain ⟨v1, v2, v3, v4, v5, v6⟩ := v
      refine ⟨r, cd', [], 1, by omega, fun f hf => ?_, k1, fun q hq => (nomatch hq), ?_, ?_, ?_, ?_⟩
      · obtain ⟨f', rfl⟩ : ∃ f', f = f' + 1 := ⟨f - 1, by omega⟩
        rw [l_ts hn h.1 h.2.1 hT e]; rfl
      · rw [t7]; try rfl
      · rw [t7]; exact k3
      · rw [t7]; show cd.1 < cd'.1; omega
      · rw [t7]
        show XR ord cd'.2.1 cd'.2.2 (nW ord) cd.1 cd'.1 (l' - l) D
        rw [k2]
        exact k4.mo (by omega)
