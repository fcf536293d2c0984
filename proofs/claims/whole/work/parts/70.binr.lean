/-! ===== PARTS, TERMS, SUMS: the reference reads so ===== -/
def RS1 (sh : List gb_Sh) (n : Nat) (B : Nat → Int32) (ord : Bool) (y1 : Int32) (lv : Nat) (et : Int32) (hi : Nat) (g : gb_G) (s l : Nat) (cd : Cd) (P : Pl) (d : Nat) (τ : Int32) : Ou → Prop
  | .inl p => ∃ r, RB r p ∧ ∀ f, 2 * (n - s) + 2 ≤ f → rL sh f g y1 τ = some r
  | .inr (s', l', D, _) => ∃ (r : gb_G) (cd' : Cd) (Q : Pl) (j : Nat), j ≤ 2 * (s' - s) ∧ (∀ f, j ≤ f → rL sh f g y1 τ = rL sh (f - j) r y1 et) ∧ RSt n B ord r s' l' cd' (Q ++ P) d ∧ (∀ q ∈ Q, 20 ≤ q.1 ∧ q.1 ≤ hi) ∧ (stl lv (Q ++ P) cd').1 = P ∧ lowR cd (stl lv (Q ++ P) cd').2 ∧ cd.1 < (stl lv (Q ++ P) cd').2.1 ∧ XR ord (stl lv (Q ++ P) cd').2.2.1 (stl lv (Q ++ P) cd').2.2.2 (nW ord) cd.1 (stl lv (Q ++ P) cd').2.1 (l' - l) D
def RO (sh : List gb_Sh) (n : Nat) (B : Nat → Int32) (ord : Bool) (y1 : Int32) (lv : Nat) (et : Int32) (hi : Nat) (T : Nat → Int32 → Prop) (Z : Pl → Prop) (d s l : Nat) (o : Ou) : Prop := ∀ g cd P τ, RSt n B ord g s l cd P d → top P < lv → Z P → T s τ → RS1 sh n B ord y1 lv et hi g s l cd P d τ o
/-- where a SUM may begin -/
def Ts (n : Nat) (B : Nat → Int32) (s : Nat) (τ : Int32) : Prop := τ = 1 ∨ (τ = 0 ∧ ¬ isK n B s 7 ∧ ¬ isG n B s 40)
theorem l_ts {sh : List gb_Sh} {n s f : Nat} {B : Nat → Int32} {g : gb_G} {y1 τ : Int32} {r : gb_G × Int32} (hn : n ≤ 400) (h : mS g n B s) (hb : g.1 77 19 = 0) (hT : Ts n B s τ) (e : f_X11_readPart sh g = some r) : rL sh (f + 1) g y1 τ = rL sh f r.1 y1 r.2 := by
  rcases hT with z | ⟨z, z1, z2⟩
  · rw [z]; exact l_pt hb e
  · rw [z]
    have e2 : f_X11_readPlain sh g = some r := by
      unfold f_X11_readPlain
      rw [show (14836 : Int64) = Int64.ofNat (kh 7) from rfl, kw_m hn (by omega) h, if_neg z1, bf]
      simp only []
      rw [sg_m h (by decide), if_neg z2, bf]
      simp only []
      rw [e, gb_bd_s]
    exact l_pl hb e2
theorem sx_n {n s s1 : Nat} {B : Nat → Int32} (h : sx n B s s1 = none) : ∀ c ∈ sgs s1, ¬ isG n B s c := by
  unfold sx at h
  split at h
  · have key : ∀ (l : List Int32) (i : Nat), sxl (B s) l i = none → ∀ c ∈ l, ¬ B s = c := by
      intro l
      induction l with
      | nil => intro i _ c hc; cases hc
      | cons a r ih =>
        intro i h c hc
        rw [sxl] at h
        split at h
        · cases h
        · next z =>
          rcases List.mem_cons.1 hc with y | y
          · rw [y]; exact z
          · exact ih _ h c y
    exact fun c hc z => key _ _ h c hc z.2
  · next q => exact fun c hc z => q z.1
theorem bs_n {sh : List gb_Sh} {n s : Nat} {B : Nat → Int32} {g : gb_G} {y1 : Int32} (h : mS g n B s) (h9 : sx n B s 9 = none) (h10 : sx n B s 10 = none) : f_X11_behindSum sh g y1 = f_X11_behindSum_71 sh g y1 (-1) := by
  have a := sx_n h9
  have b := sx_n h10
  unfold f_X11_behindSum
  rw [sg_m h (by decide), if_neg (a 43 (by decide)), bf]
  simp only []
  rw [sg_m h (by decide), if_neg (a 45 (by decide)), bf]
  simp only []
  rw [sg_m h (by decide), if_neg (b 42 (by decide)), bf]
  simp only []
  rw [sg_m h (by decide), if_neg (b 47 (by decide)), bf]
  simp only []
  rw [sg_m h (by decide), if_neg (b 37 (by decide)), bf]
theorem bs_s {sh : List gb_Sh} {n s s1 off k : Nat} {B : Nat → Int32} {g : gb_G} {y1 : Int32} (h : mS g n B s) (hs1 : (s1 = 9 ∧ off = 0) ∨ (s1 = 10 ∧ off = 2)) (hk : sx n B s s1 = some k) : f_X11_behindSum sh g y1 = f_X11_behindSum_71 sh g y1 (Int32.ofNat (20 + (off + k))) := by
  obtain ⟨k1, k2, k3⟩ := sx_b hk
  have no : ∀ c : Int32, ¬ B s = c → ¬ isG n B s c := fun c hc z => hc z.2
  unfold f_X11_behindSum
  rcases hs1 with ⟨rfl, rfl⟩ | ⟨rfl, rfl⟩
  · have h2 : k = 0 ∨ k = 1 := by have : k < 2 := k2; omega
    rcases h2 with rfl | rfl
    · have e : B s = 43 := k3
      rw [sg_m h (by decide), if_pos ⟨k1, e⟩, bt]; rfl
    · have e : B s = 45 := k3
      rw [sg_m h (by decide), if_neg (no 43 (by rw [e]; decide)), bf]
      simp only []
      rw [sg_m h (by decide), if_pos ⟨k1, e⟩, bt]; rfl
  · have h2 : k = 0 ∨ k = 1 ∨ k = 2 := by have : k < 3 := k2; omega
    rcases h2 with rfl | rfl | rfl
    · have e : B s = 42 := k3
      rw [sg_m h (by decide), if_neg (no 43 (by rw [e]; decide)), bf]
      simp only []
      rw [sg_m h (by decide), if_neg (no 45 (by rw [e]; decide)), bf]
      simp only []
      rw [sg_m h (by decide), if_pos ⟨k1, e⟩, bt]; rfl
    · have e : B s = 47 := k3
      rw [sg_m h (by decide), if_neg (no 43 (by rw [e]; decide)), bf]
      simp only []
      rw [sg_m h (by decide), if_neg (no 45 (by rw [e]; decide)), bf]
      simp only []
      rw [sg_m h (by decide), if_neg (no 42 (by rw [e]; decide)), bf]
      simp only []
      rw [sg_m h (by decide), if_pos ⟨k1, e⟩, bt]; rfl
    · have e : B s = 37 := k3
      rw [sg_m h (by decide), if_neg (no 43 (by rw [e]; decide)), bf]
      simp only []
      rw [sg_m h (by decide), if_neg (no 45 (by rw [e]; decide)), bf]
      simp only []
      rw [sg_m h (by decide), if_neg (no 42 (by rw [e]; decide)), bf]
      simp only []
      rw [sg_m h (by decide), if_neg (no 47 (by rw [e]; decide)), bf]
      simp only []
      rw [sg_m h (by decide), if_pos ⟨k1, e⟩, bt]; rfl
/-- TERMS and SUMS: the signs behind -/
theorem binr {sh : List gb_Sh} {n s1 off lv d : Nat} {B : Nat → Int32} {ord : Bool} {y1 : Int32} {pO : Nat → Nat → Ou} {Z : Pl → Prop} (hn : n ≤ 400) (hs1 : (s1 = 9 ∧ off = 0 ∧ lv = 5) ∨ (s1 = 10 ∧ off = 2 ∧ lv = 6)) (hZ : ∀ P, Z P) (hR : ∀ s l, RO sh n B ord y1 (lv + 1) 3 24 (Ts n B) Z d s l (pO s l)) (hV : ∀ s l, s ≤ n → l ≤ 50 → VO n ord s l (pO s l)) {g0 : gb_G} {s0 l0 : Nat} {cd0 : Cd} {P : Pl} {τ : Int32} (htop : top P < lv) : ∀ (f s l : Nat) (D : Den) (φ : Bool), n ≤ s + f → RS1 sh n B ord y1 lv 3 24 g0 s0 l0 cd0 P d τ (.inr (s, l, D, φ)) → VD (nW ord) D → l0 < l → s0 < s → RS1 sh n B ord y1 lv 3 24 g0 s0 l0 cd0 P d τ (binL n B s1 off pO f s l D φ) := by
  intro f
  induction f with
  | zero => intro s l D φ hf h hD hl hs; exact h
  | succ f ih =>
    intro s l D φ hf h hD hl hs
    rw [binL]
    cases hk : sx n B s s1 with
    | none => exact h
    | some k =>
      simp only []
      obtain ⟨k1, k2, -⟩ := sx_b hk
      obtain ⟨r, cd', Q, j, i1, i2, i3, i4, i5, i6, i7, i8⟩ := h
      have hsn := i3.1.2.1
      have hl50 := i3.2.2.2.2.2.2.2.2.2.2.1
      have ht := tn_b (B := B) hsn
      have hlt := ht.2.2 k1
      have hop : off + k < 5 ∧ bnd (20 + (off + k)) = lv ∧ lv ≤ 6 ∧ 5 ≤ lv := by
        rcases hs1 with ⟨rfl, rfl, rfl⟩ | ⟨rfl, rfl, rfl⟩
        · have h2 : k = 0 ∨ k = 1 := by have : k < 2 := k2; omega
          rcases h2 with rfl | rfl <;> decide
        · have h2 : k = 0 ∨ k = 1 ∨ k = 2 := by have : k < 3 := k2; omega
          rcases h2 with rfl | rfl | rfl <;> decide
      obtain ⟨o1, o2, o3, o4⟩ := hop
      generalize hS : stl lv (Q ++ P) cd' = S at i5 i6 i7 i8
      obtain ⟨SP, cdS⟩ := S
      simp only [] at i5 i6 i7 i8
      subst i5
      obtain ⟨g1, e1, r1⟩ := RSt_se (sh := sh) (lv := lv) i3 hn (by omega)
      rw [hS] at r1
      simp only [] at r1
      obtain ⟨g2, g3, e2, e3, r3⟩ := RSt_pn (sh := sh) (op := 20 + (off + k)) (at' := 0) r1 k1 hn (by omega) (by omega)
      have eb : f_X11_behindSum sh r y1 = some (g3, 1) := by
        have hs2 : (s1 = 9 ∧ off = 0) ∨ (s1 = 10 ∧ off = 2) := by omega
        rw [bs_s (off := off) i3.1 hs2 hk]
        unfold f_X11_behindSum_71
        rw [if_neg (o_ne1 (by omega)), bnd_m (by omega), gb_bd_s, o2]
        simp only []
        rw [e1, gb_bd_s, show (0 : Int32) = Int32.ofNat 0 from rfl, e2, gb_bd_s, e3, gb_bd_s]
      have st : ∀ f, j + 1 ≤ f → rL sh f g0 y1 τ = rL sh (f - (j + 1)) g3 y1 1 := by
        intro f hf
        rw [i2 f (by omega), show f - j = (f - (j + 1)) + 1 by omega, l_bs i3.2.1 eb]
      have q := hR (tn n B s) l g3 cdS ((20 + (off + k), 0) :: SP) 1 r3 (by show bnd (20 + (off + k)) < lv + 1; rw [o2]; omega) (hZ _) (Or.inl rfl)
      have v := hV (tn n B s) l ht.2.1 hl50
      cases ho : pO (tn n B s) l with
      | inl p =>
        rw [ho] at q
        obtain ⟨x, x1, x2⟩ := q
        exact ⟨x, x1, fun f hf => by rw [st f (by omega), x2 _ (by omega)]⟩
      | inr x =>
        obtain ⟨s', l', D', φ'⟩ := x
        rw [ho] at q v
        obtain ⟨r', cd'', Q', j', a1, a2, a3, a4, a5, a6, a7, a8⟩ := q
        obtain ⟨v1, v2, v3, v4, v5, v6⟩ := v
        generalize hS' : stl (lv + 1) (Q' ++ (20 + (off + k), 0) :: SP) cd'' = S' at a5 a6 a7 a8
        obtain ⟨SP', cdS'⟩ := S'
        simp only [] at a5 a6 a7 a8
        subst a5
        have eN : stl lv ((Q' ++ [(20 + (off + k), 0)]) ++ SP) cd'' = (SP, (cdS'.1 + 1, upd cdS'.2.1 cdS'.1 (Int32.ofNat (20 + (off + k))), upd cdS'.2.2 cdS'.1 0)) := by
          rw [List.append_assoc, List.singleton_append, stl_2 (lv := lv + 1) (by omega), hS']
          simp only []
          rw [show stl lv ((20 + (off + k), 0) :: SP) cdS' = if bnd (20 + (off + k)) < lv then ((20 + (off + k), 0) :: SP, cdS') else if 20 + (off + k) = 29 ∨ 20 + (off + k) = 30 then stl lv SP (cdS'.1, cdS'.2.1, upd cdS'.2.2 0 (Int32.ofNat cdS'.1)) else stl lv SP (cdS'.1 + 1, upd cdS'.2.1 cdS'.1 (Int32.ofNat (20 + (off + k))), upd cdS'.2.2 cdS'.1 0) from rfl, if_neg (by omega), if_neg (by omega), stl_n htop]
        refine ih s' l' (Db (off + k) D D') (φ || φ') (by omega) ⟨r', cd'', Q' ++ [(20 + (off + k), 0)], j + 1 + j', by omega, fun f hf => by rw [st f (by omega), a2 _ (by omega), show f - (j + 1) - j' = f - (j + 1 + j') by omega], by rw [List.append_assoc, List.singleton_append]; exact a3, fun q hq => ?_, by rw [eN], ?_, ?_, ?_⟩ VD_b (by omega) (by omega)
        · rcases List.mem_append.1 hq with z | z
          · exact a4 q z
          · rw [List.mem_singleton.1 z]; exact ⟨by show 20 ≤ 20 + (off + k); omega, by show 20 + (off + k) ≤ 24; omega⟩
        · rw [eN]
          exact (i6.tr a6 (by omega)).tr (fun i hi => ⟨upn (by omega), upn (by omega)⟩) (by omega)
        · rw [eN]; show cd0.1 < cdS'.1 + 1; omega
        · rw [eN, show l' - l0 = (l - l0) + (l' - l) by omega]
          simp only []
          refine XR_bin (m := cdS.1) (i8.eq fun i hi hj => ?_) (a8.eq fun i hi hj => ?_) hD v5 upe (by omega) (by omega) (by omega) (by omega) (by omega)
          · rw [upn (by omega), upn (by omega)]; exact a6 i hj
          · rw [upn (by omega), upn (by omega)]; exact ⟨rfl, rfl⟩
theorem binr0 {sh : List gb_Sh} {n s1 off lv d : Nat} {B : Nat → Int32} {ord : Bool} {y1 : Int32} {pO : Nat → Nat → Ou} {Z : Pl → Prop} (hn : n ≤ 400) (hs1 : (s1 = 9 ∧ off = 0 ∧ lv = 5) ∨ (s1 = 10 ∧ off = 2 ∧ lv = 6)) (hZ : ∀ P, Z P) (hR : ∀ s l, RO sh n B ord y1 (lv + 1) 3 24 (Ts n B) Z d s l (pO s l)) (hV : ∀ s l, s ≤ n → l ≤ 50 → VO n ord s l (pO s l)) (s l : Nat) : RO sh n B ord y1 lv 3 24 (Ts n B) Z d s l (binO n B s1 off pO s l) := by
  intro g cd P τ h htop hz hT
  have q := hR s l g cd P τ h (by omega) hz hT
  have v := hV s l h.1.2.1 h.2.2.2.2.2.2.2.2.2.2.1
  unfold binO
  cases ho : pO s l with
  | inl p => rw [ho] at q; exact q
  | inr x =>
    obtain ⟨s', l', D', φ'⟩ := x
    rw [ho] at q v
    obtain ⟨r, cd', Q, j, a1, a2, a3, a4, a5, a6, a7, a8⟩ := q
    obtain ⟨v1, v2, v3, v4, v5, v6⟩ := v
    generalize hS : stl (lv + 1) (Q ++ P) cd' = S at a5 a6 a7 a8
    obtain ⟨SP, cdS⟩ := S
    simp only [] at a5 a6 a7 a8
    subst a5
    have eN : stl lv (Q ++ SP) cd' = (SP, cdS) := by
      rw [stl_2 (lv := lv + 1) (by omega), hS]
      exact stl_n htop
    refine binr (g0 := g) hn hs1 hZ hR hV htop 400 s' l' D' φ' (by omega) ⟨r, cd', Q, j, a1, a2, a3, a4, ?_, ?_, ?_, ?_⟩ v5 v3 v1
    · rw [eN]
    · rw [eN]; exact a6
    · rw [eN]; exact a7
    · rw [eN]; exact a8
