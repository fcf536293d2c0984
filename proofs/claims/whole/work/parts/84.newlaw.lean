/-! ===== a LAW, out of CLAUSES ===== -/
def toQ (q : Cl) : ms_Q := (q.1, (match q.2.1 with
  | none => fun _ => some 1
  | some D => D), match q.2.2.2.2 with
  | none => fun _ => some true
  | some D => fun w => match D w with
    | none => none
    | some v => some (decide (v = 1)))
theorem toQ_wf {q : Cl} {φ : Bool} (h : wfCl false φ q) : wfQ (toQ q) := by
  obtain ⟨k, D1, D2, t, D3⟩ := q
  obtain ⟨h1, h2, h3, h4, h5, h6, h7⟩ := h
  refine ⟨h1, fun e w => ?_, fun w v hw e => ?_, fun w w' e => ⟨?_, ?_⟩⟩
  · have : D1 = none := h2.2 e
    subst this
    rfl
  · cases D1 with
    | none => cases e; rw [im]; decide
    | some D => exact (h5 D rfl).1 w hw v e
  · cases D1 with
    | none => rfl
    | some D => exact (h5 D rfl).2 w w' fun j hj _ => e j hj
  · cases D3 with
    | none => rfl
    | some D =>
      show (match D w with | none => none | some v => some (decide (v = 1))) = (match D w' with | none => none | some v => some (decide (v = 1)))
      rw [(h7 D rfl).2 w w' fun j hj _ => e j hj]
/-! what the machine tells does not hang on other cells -/
theorem run75_sh {sh sh' : List gb_Sh} {b a4 n4 : Nat} (h1 : gb_ln sh' (b + 1) = gb_ln sh (b + 1)) (h2 : gb_ln sh' (b + 2) = gb_ln sh (b + 2)) : ∀ (F : Nat) (g : gb_G) (y6 y7 y8 y9 : Int32), f_X5_run_75 sh' b a4 n4 F g y6 y7 y8 y9 = f_X5_run_75 sh b a4 n4 F g y6 y7 y8 y9 := by
  have hj : ∀ g x y z, f_X5_join sh' g x y z = f_X5_join sh g x y z := fun g x y z => rfl
  have hm : ∀ g x y, f_J9_max_7cf53 sh' g x y = f_J9_max_7cf53 sh g x y := fun g x y => rfl
  intro F
  induction F with
  | zero => intro g y6 y7 y8 y9; rfl
  | succ F ih =>
    intro g y6 y7 y8 y9
    rw [f_X5_run_75, f_X5_run_75]
    simp only [f_X5_run_324, f_X5_run_292, f_X5_run_318, f_X5_run_237, f_X5_run_148, f_X5_run_169, f_X5_run_145, h1, h2, ih, hj, hm]
theorem run_sh {sh sh' : List gb_Sh} {g : gb_G} {b a4 n4 : Nat} {x y : Int32} (h1 : gb_ln sh' (b + 1) = gb_ln sh (b + 1)) (h2 : gb_ln sh' (b + 2) = gb_ln sh (b + 2)) (h5 : gb_ln sh' (b + 5) = gb_ln sh (b + 5)) : f_X5_run sh' g b x y a4 n4 = f_X5_run sh g b x y a4 n4 := by
  have hm : ∀ g x y, f_J9_min_7cf53 sh' g x y = f_J9_min_7cf53 sh g x y := fun g x y => rfl
  unfold f_X5_run
  simp only [f_X5_run_24, h5, hm, run75_sh h1 h2]
theorem ln_app {sh L : List gb_Sh} {c : Nat} (h : c < sh.length) : gb_ln (sh ++ L) c = gb_ln sh c := by
  unfold gb_ln
  rw [List.getElem?_append_left h]
theorem ok_lt {sh : List gb_Sh} {p : Nat} (h : gb_okX7 sh p) : p + 5 < sh.length := by
  have := h.2.2.2.2.2
  exact nx this
theorem okX7_app {sh L : List gb_Sh} {p : Nat} (h : gb_okX7 sh p) : gb_okX7 (sh ++ L) p := by
  have hl := ok_lt h
  obtain ⟨h0, h1, h2, h3, h4, h5⟩ := h
  refine ⟨?_, ?_, ?_, ?_, ?_, ?_⟩
  · rw [List.getElem?_append_left (by omega)]; exact h0
  · rw [List.getElem?_append_left (by omega), ln_app (by omega)]; exact h1
  · rw [List.getElem?_append_left (by omega), ln_app (by omega)]; exact h2
  · rw [List.getElem?_append_left (by omega), ln_app (by omega)]; exact h3
  · rw [List.getElem?_append_left (by omega), ln_app (by omega)]; exact h4
  · rw [List.getElem?_append_left (by omega), ln_app (by omega)]; exact h5
theorem cvL_app {sh L : List gb_Sh} {g : gb_G} {p : Nat} {lw : ms_L} (h : cvL sh g p lw) : cvL (sh ++ L) g p lw := by
  obtain ⟨h1, h2, h3, h4, h5⟩ := h
  have hl := ok_lt h1
  refine ⟨okX7_app h1, h2, h3, by rw [ln_app (by omega)]; exact h4, fun c q hq => ⟨(h5 c q hq).1, fun g' e hw => ?_⟩⟩
  rw [run_sh (ln_app (by omega)) (ln_app (by omega)) (ln_app (by omega)), run_sh (ln_app (by omega)) (ln_app (by omega)) (ln_app (by omega))]
  exact (h5 c q hq).2 g' e hw
/-- as cvL_fr, where the law's own cells hold still -/
theorem cvL_fp {sh : List gb_Sh} {g g' : gb_G} {p : Nat} {lw : ms_L} (h : cvL sh g p lw) (e : ∀ c k, 105 ≤ c → c < sh.length → eqc g g' c k) : cvL sh g' p lw := by
  obtain ⟨h1, h2, h3, h4, h5⟩ := h
  have hl := ok_lt h1
  refine ⟨h1, h2, by rw [(e p 3 h2 (by omega)).1]; exact h3, h4, fun c q hq => ?_⟩
  obtain ⟨h6, h7⟩ := h5 c q hq
  refine ⟨by rw [(e (p + 3) c (by omega) (by omega)).1]; exact h6, fun g2 e2 => h7 g2 fun i k hi => ?_⟩
  rw [e2 i k hi, (e (p + i) k (by omega) (by omega)).1]
theorem cvB_ap {sh L : List gb_Sh} {g g' : gb_G} {b : Nat} {β : ms_B} (h : cvB sh g b β) (e : ∀ c k, (b ≤ c ∧ c ≤ b + 5) ∨ (105 ≤ c ∧ c < sh.length) → eqc g g' c k) : cvB (sh ++ L) g' b β := by
  obtain ⟨h0, h1, h2, h3, h4, h5, h6, h7, h8, h9⟩ := h
  refine ⟨?_, fun i j hi hj => ?_, ?_, fun p i hp hi => ?_, ?_, fun j hj => ?_, fun j hj => ?_, ?_, fun k lw hk => ?_, ?_⟩
  · rw [(e b 0 (by omega)).1]; exact h0
  · rw [(e (b + 1) _ (by omega)).1]; exact h1 i j hi hj
  · rw [(e b 2 (by omega)).1]; exact h2
  · rw [(e (b + 2) _ (by omega)).1]; exact h3 p i hp hi
  · rw [(e b 4 (by omega)).1]; exact h4
  · rw [(e (b + 3) _ (by omega)).1]; exact h5 j hj
  · rw [(e (b + 4) _ (by omega)).1]; exact h6 j hj
  · rw [(e b 7 (by omega)).1]; exact h7
  · obtain ⟨p, hp, hl⟩ := h8 k lw hk
    exact ⟨p, by rw [(e (b + 5) k (by omega)).2.2]; exact hp, cvL_app (cvL_fp hl fun c k h1 h2 => e c k (Or.inr ⟨h1, h2⟩))⟩
  · rw [(e b 9 (by omega)).1]; exact h9
/-! the class' new law -/
theorem runK {sh : List gb_Sh} {g : gb_G} {b c p m a e z : Nat} {D : Option Den} (hl : gb_ln sh (b + 5) = 3 * m + 1) (hc : c < m) (hm : m ≤ 12) (hp : p ≤ 2) (h1 : g.1 (b + 5) (3 * c + p) = Int32.ofNat a) (h2 : g.1 (b + 5) (3 * c + p + 1) = Int32.ofNat e) (h0 : g.1 b 0 = Int32.ofNat z) (hez : e ≤ z) (hz : z ≤ 400) (l1 : gb_ln sh (b + 1) = z) (l2 : gb_ln sh (b + 2) = z) (hb : 105 ≤ b) (hw : okn 9 (g.1 55)) (hX : pC (g.1 (b + 1)) (g.1 (b + 2)) 9 a e D) : ∃ g'', f_X5_run sh g b (Int32.ofNat c) (Int32.ofNat p) 55 9 = some (g'', ms_br ((match D with | none => fun _ => some 1 | some D => D) (g.1 55))) := by
  rw [Nat.mul_comm 3 c] at h1 h2
  cases D with
  | none =>
    have e1 : a = e := hX
    subst e1
    exact ⟨g, run_0 hl hc hm hp h1 h2 h0 hez hz⟩
  | some D =>
    obtain ⟨x1, k, x2, x3⟩ := hX
    exact run_t hl hc hm hp h1 h2 h0 x1 hez hz (by omega) (by omega) (by omega) (by omega) (by omega) (by omega) (by omega) (by omega) hw x3
theorem ms_tb_e {D : Option Den} {w : Nat → Int32} (h : ∀ E, D = some E → ∀ v, E w = some v → v = 0 ∨ v = 1) : ms_br ((match D with | none => fun _ => some 1 | some D => D) w) = ms_tb ((match D with
  | none => fun _ => some true
  | some D => fun w => match D w with
    | none => none
    | some v => some (decide (v = 1))) w) := by
  cases D with
  | none => rfl
  | some E =>
    show ms_br (E w) = ms_tb (match E w with | none => none | some v => some (decide (v = 1)))
    cases hE : E w with
    | none => rfl
    | some v =>
      rcases h E rfl v hE with z | z
      · subst z; rfl
      · subst z; rfl
theorem cv_new {sh : List gb_Sh} {r : gb_G} {v : Int32} {g2 g3 : gb_G} {c : Nat} {cs : List Cl} {φ : Bool} (hc : c ≤ 400) (hl : cs.length ≤ 12) (h105 : 105 ≤ sh.length) (h : ∀ i q, cs[i]? = some q → gC r (nW false) i c q) (hw : ∀ q ∈ cs, wfCl false φ q) (hN : gb_newlaw (r, v) sh.length c cs.length g2) (e : ∀ a k, sh.length ≤ a → g3.1 a k = g2.1 a k) : cvL (sh ++ gb_lawcells sh.length c cs.length) g3 sh.length (cs.map toQ) := by
  obtain ⟨-, n0, n3, n7, n47, n48, n49, n50, n51⟩ := hN
  have z : ∀ (i : Nat) (x : gb_Sh), (gb_lawcells sh.length c cs.length)[i]? = some x → (sh ++ gb_lawcells sh.length c cs.length)[sh.length + i]? = some x := fun i x hx => gb_at rfl hx
  have l1 : gb_ln (sh ++ gb_lawcells sh.length c cs.length) (sh.length + 1) = c := by rw [gb_ln, z 1 _ rfl]
  have l2 : gb_ln (sh ++ gb_lawcells sh.length c cs.length) (sh.length + 2) = c := by rw [gb_ln, z 2 _ rfl]
  have l3 : gb_ln (sh ++ gb_lawcells sh.length c cs.length) (sh.length + 3) = cs.length := by rw [gb_ln, z 3 _ rfl]
  have l4 : gb_ln (sh ++ gb_lawcells sh.length c cs.length) (sh.length + 4) = cs.length := by rw [gb_ln, z 4 _ rfl]
  have l5 : gb_ln (sh ++ gb_lawcells sh.length c cs.length) (sh.length + 5) = 3 * cs.length + 1 := by rw [gb_ln, z 5 _ rfl]
  refine ⟨⟨z 0 _ rfl, by rw [l1]; exact z 1 _ rfl, by rw [l2]; exact z 2 _ rfl, by rw [l3]; exact z 3 _ rfl, by rw [l4]; exact z 4 _ rfl, by rw [l5]; exact z 5 _ rfl⟩, h105, by rw [List.length_map, e _ _ (Nat.le_refl _)]; exact n3, by rw [List.length_map]; exact l3, fun i q hq => ?_⟩
  rw [List.getElem?_map] at hq
  cases hx : cs[i]? with
  | none => rw [hx] at hq; cases hq
  | some x =>
    rw [hx] at hq
    have hq : toQ x = q := by simpa using hq
    subst hq
    have hi : i < cs.length := nx hx
    obtain ⟨y1, y2, a0, a1, a2, a3, y3, b0, b1, b2, b3, p1, p2, p3⟩ := h i x hx
    have q1 := pC_le p1
    have q2 := pC_le p2
    have q3 := pC_le p3
    obtain ⟨w1, w2, w3, w4, w5, w6, w7⟩ := hw x (List.mem_of_getElem? hx)
    refine ⟨by rw [e _ _ (by omega), n49 i hi]; exact y1, fun g' e' h55 => ?_⟩
    have E : ∀ j k, j < 6 → g'.1 (sh.length + j) k = g2.1 (sh.length + j) k := fun j k hj => (e' j k hj).trans (e _ _ (by omega))
    have hb : ∀ k, k < 3 * cs.length + 1 → g'.1 (sh.length + 5) k = r.1 51 k := fun k hk => (E 5 k (by omega)).trans (n51 k hk)
    have h47 : ∀ k, k < c → g'.1 (sh.length + 1) k = r.1 47 k := fun k hk => (E 1 k (by omega)).trans (n47 k hk)
    have h48 : ∀ k, k < c → g'.1 (sh.length + 2) k = r.1 48 k := fun k hk => (E 2 k (by omega)).trans (n48 k hk)
    have h0 : g'.1 sh.length 0 = Int32.ofNat c := (E 0 0 (by omega)).trans n0
    constructor
    · exact runK (p := 0) l5 hi hl (by omega) ((hb _ (by omega)).trans b0) ((hb _ (by omega)).trans b1) h0 (by omega) hc l1 l2 h105 h55 (pC_eq p1 fun k _ hk => ⟨h47 k (by omega), h48 k (by omega)⟩)
    · obtain ⟨g'', e2⟩ := runK (p := 2) l5 hi hl (by omega) ((hb _ (by omega)).trans b2) ((hb _ (by omega)).trans b3) h0 (by omega) hc l1 l2 h105 h55 (pC_eq p3 fun k _ hk => ⟨h47 k (by omega), h48 k (by omega)⟩)
      rw [ms_tb_e fun D hD v hv => (w7 D hD).1 _ h55 v hv] at e2
      exact ⟨g'', e2⟩
/-! the reference's new law -/
theorem isSo_m {sh : List gb_Sh} {g : gb_G} {a c : Nat} {w : Nat → Int32} {q : Cl} {cd : Cd} {φ : Bool} {Q : Nat → Int32} (ha : a + 900 ≤ 5520) (hc : c < 12) (hcd : cd.1 ≤ 400) (hQ : ∀ j, j < 8 → g.1 79 (a + 2 + 8 * c + j) = Q (8 * c + j)) (hq : gM false cd Q c q) (hwf : wfCl false φ q) (hcode : ∀ i, i < cd.1 → g.1 79 (a + 98 + 2 * i) = cd.2.1 i ∧ g.1 79 (a + 98 + 2 * i + 1) = cd.2.2 i) (h34 : g.1 77 34 = Int32.ofNat a) (h20 : g.1 77 20 = 0) (h95 : ∀ j, j < 9 → g.2.1 95 (j + 1) = (w j).toInt64) (hw : ok9 w) : ∃ g' : gb_G, f_X11_isSo sh g (Int32.ofNat (a + 2 + 8 * c)) = some (g', if (ms_ho (toQ q) w).isSome then 1 else 0) ∧ ∀ v, ms_ho (toQ q) w = some v → q.1 ≠ 3 → g'.2.1 77 40 = v.toInt64 := by
  obtain ⟨k, D1, D2, t, D3⟩ := q
  obtain ⟨w1, w2, w3, w4, w5, w6, w7⟩ := hwf
  obtain ⟨y1, y2, ⟨a5, e5, z1, z2, z3, z4⟩⟩ := hq
  have y2 : pRb false cd Q (8 * c + 3) D1 := by
    rcases y2 with y2 | y2
    · exact y2.2
    · exact absurd y2.1 (by decide)
  obtain ⟨a3, e3, x1, x2, x3, x4⟩ := y2
  have q0 : g.1 79 (a + 2 + 8 * c) = Int32.ofNat k := (hQ 0 (by omega)).trans y1
  have q3 : g.1 79 (a + 2 + 8 * c + 3) = Int32.ofNat a3 := (hQ 3 (by omega)).trans x2
  have q4 : g.1 79 (a + 2 + 8 * c + 4) = Int32.ofNat e3 := (hQ 4 (by omega)).trans x3
  have q5 : g.1 79 (a + 2 + 8 * c + 5) = Int32.ofNat a5 := (hQ 5 (by omega)).trans z2
  have q6 : g.1 79 (a + 2 + 8 * c + 6) = Int32.ofNat e5 := (hQ 6 (by omega)).trans z3
  have le3 := pR_le x4
  have le5 := pR_le z4
  have w1 : k ≤ 3 := w1
  -- the SUM
  have key : ∀ g1 : gb_G, (∀ c k, ¬ ((c = 77 ∧ (k = 38 ∨ k = 39 ∨ k = 40)) ∨ c = 97) → eqc g g1 c k) → ∃ g' : gb_G, f_X11_isSo_59 sh g1 (Int32.ofNat (a + 2 + 8 * c)) = some (g', if ((match D1 with | none => fun _ => some (1 : Int32) | some D => D) w).isSome then 1 else 0) ∧ ∀ v, (match D1 with | none => fun _ => some (1 : Int32) | some D => D) w = some v → k ≠ 3 → g'.2.1 77 40 = v.toInt64 := by
    intro g1 E
    unfold f_X11_isSo_59
    rw [gb_ck_s (o_in (by omega) (by omega)), o_cl (by omega), (E 79 _ (by omega)).1, q0]
    by_cases h3 : k = 3
    · have : D1 = none := w2.2 h3
      subst this
      rw [if_pos (by rw [h3]; rfl)]
      exact ⟨g1, rfl, fun v _ hk => absurd h3 hk⟩
    · obtain ⟨D, hD⟩ : ∃ D, D1 = some D := by
        cases D1 with
        | none => exact absurd (w2.1 rfl) h3
        | some D => exact ⟨D, rfl⟩
      subst hD
      obtain ⟨u1, u, u2, u3⟩ := x4
      rw [if_neg (show ¬ Int32.ofNat k = 3 from fun z => h3 (o_inj (j := 3) (by omega) (by omega) z)), show (3 : Int32) = Int32.ofNat 3 from rfl, show (4 : Int32) = Int32.ofNat 4 from rfl, o_add, o_add, gb_ck_s (o_in (by omega) (by omega)), gb_ck_s (o_in (by omega) (by omega)), o_cl (by omega), o_cl (by omega), (E 79 _ (by omega)).1, (E 79 _ (by omega)).1, q3, q4]
      obtain ⟨g', s1, s2, s3⟩ := rka (sh := sh) (g := g1) (ord := false) (O := cd.2.1) (A := cd.2.2) (w := w) (nw := 9) (D := D) ⟨(E _ _ (by omega)).1.trans h20, a, (E _ _ (by omega)).1.trans h34, ha, fun i hi1 hi2 => ⟨(E _ _ (by omega)).1.trans (hcode i (by omega)).1, (E _ _ (by omega)).1.trans (hcode i (by omega)).2⟩⟩ (fun j hj => (E 95 _ (by omega)).2.1.trans (h95 j hj)) hw (by omega) (by omega) u3
      rw [s1, gb_bd_s, gb_let_s, pk]
      cases hv : D w with
      | none =>
        rw [s2 hv, if_neg (by decide)]
        exact ⟨_, by show _ = some (_, if (D w).isSome then 1 else 0); rw [hv]; rfl, fun v hv2 => by have hv2 : D w = some v := hv2; rw [hv] at hv2; cases hv2⟩
      | some v =>
        obtain ⟨s4, s5⟩ := s3 v hv
        rw [s4, if_pos rfl, s5]
        exact ⟨_, by show _ = some (_, if (D w).isSome then 1 else 0); rw [hv]; rfl, fun v' hv2 _ => by have hv2 : D w = some v' := hv2; rw [hv] at hv2; cases hv2; exact pj_e⟩
  have hho : ms_ho (toQ (k, D1, D2, t, D3)) w = if (match D3 with | none => fun _ => some true | some D => fun w => match D w with | none => none | some v => some (decide (v = 1))) w = some true then (match D1 with | none => fun _ => some (1 : Int32) | some D => D) w else none := rfl
  unfold f_X11_isSo
  rw [show (5 : Int32) = Int32.ofNat 5 from rfl, show (6 : Int32) = Int32.ofNat 6 from rfl, o_add, o_add, gb_ck_s (o_in (by omega) (by omega)), gb_ck_s (o_in (by omega) (by omega)), o_cl (by omega), o_cl (by omega), q5, q6]
  cases D3 with
  | none =>
    have : a5 = e5 := z4
    subst this
    rw [if_pos (Int32.le_refl _)]
    have e : ms_ho (toQ (k, D1, D2, t, none)) w = (match D1 with | none => fun _ => some (1 : Int32) | some D => D) w := by
      rw [hho]; exact if_pos rfl
    rw [e]
    exact key g fun c k _ => ⟨rfl, rfl, rfl⟩
  | some E3 =>
    obtain ⟨u1, u, u2, u3⟩ := z4
    rw [if_neg (by rw [o_le (by omega) (by omega)]; omega), gb_ck_s (o_in (by omega) (by omega)), gb_ck_s (o_in (by omega) (by omega))]
    obtain ⟨g', s1, s2, s3⟩ := rka (sh := sh) (g := g) (ord := false) (O := cd.2.1) (A := cd.2.2) (w := w) (nw := 9) (D := E3) ⟨h20, a, h34, ha, fun i hi1 hi2 => hcode i (by omega)⟩ h95 hw (by omega) (by omega) u3
    have F := w_X11_reckonAll s1
    rw [s1, gb_bd_s]
    have hh : ms_ho (toQ (k, D1, D2, t, some E3)) w = if (match E3 w with | none => none | some v => some (decide (v = 1))) = some true then (match D1 with | none => fun _ => some (1 : Int32) | some D => D) w else none := hho
    cases hv : E3 w with
    | none =>
      rw [hv] at hh
      have e : ms_ho (toQ (k, D1, D2, t, some E3)) w = none := hh.trans (if_neg (by decide))
      rw [s2 hv, if_neg (by decide), e]
      exact ⟨_, rfl, fun v hv2 => by cases hv2⟩
    | some v =>
      rw [hv] at hh
      obtain ⟨s4, s5⟩ := s3 v hv
      rw [s4, if_pos rfl, s5]
      rcases (w7 E3 rfl).1 w hw v hv with z | z
      · subst z
        have e : ms_ho (toQ (k, D1, D2, t, some E3)) w = none := hh.trans (if_neg (by decide))
        rw [if_pos (by decide), e]
        exact ⟨_, rfl, fun v hv2 => by cases hv2⟩
      · subst z
        have e : ms_ho (toQ (k, D1, D2, t, some E3)) w = _ := hh.trans (if_pos (by decide))
        rw [if_neg (by decide), e]
        exact key g' fun c k hk => F c k (by omega)
