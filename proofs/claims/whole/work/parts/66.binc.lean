/-! ===== PARTS, TERMS, SUMS: what they tell; the class reads so ===== -/
def Dep (ord φ : Bool) (D : Den) : Prop := ∀ w w' : Nat → Int32, (∀ j, j < nW ord → (ord = true → j = 3 → φ = true) → w j = w' j) → D w = D w'
def VO (n : Nat) (ord : Bool) (s l : Nat) : Ou → Prop
  | .inl p => p ≤ n
  | .inr (s', l', D, φ) => s < s' ∧ s' ≤ n ∧ l < l' ∧ l' ≤ 50 ∧ VD (nW ord) D ∧ Dep ord φ D
def partO (n : Nat) (B : Nat → Int32) (ord : Bool) (sO : Nat → Nat → Ou) (d s l : Nat) : Ou :=
  if isG n B s 91 then (if 8 ≤ d then .inl s else match sO (tn n B s) l with
    | .inl p => .inl p
    | .inr (s', l', D, φ) => if isG n B s' 93 then .inr (tn n B s', l', D, φ) else .inl s')
  else lfO n B ord s l
def binL (n : Nat) (B : Nat → Int32) (s1 off : Nat) (pO : Nat → Nat → Ou) : Nat → Nat → Nat → Den → Bool → Ou
  | 0, s, l, D, φ => .inr (s, l, D, φ)
  | f + 1, s, l, D, φ => match sx n B s s1 with
    | none => .inr (s, l, D, φ)
    | some k => match pO (tn n B s) l with
      | .inl p => .inl p
      | .inr (s', l', D', φ') => binL n B s1 off pO f s' l' (Db (off + k) D D') (φ || φ')
def binO (n : Nat) (B : Nat → Int32) (s1 off : Nat) (pO : Nat → Nat → Ou) (s l : Nat) : Ou := match pO s l with
  | .inl p => .inl p
  | .inr (s', l', D, φ) => binL n B s1 off pO 400 s' l' D φ
/-- the class has read so far -/
def CI (n : Nat) (B : Nat → Int32) (ord : Bool) (g0 : gb_G) (s0 l0 c0 : Nat) (φ0 : Bool) (g : gb_G) (s l c : Nat) (D : Den) (φ : Bool) : Prop := CSt n B ord g s l c (φ0 || φ) ∧ c0 < c ∧ c + s0 ≤ c0 + s ∧ lowC g0 g c0 ∧ XC (g.1 47) (g.1 48) (nW ord) c0 c (l - l0) D ∧ KC g0 g
theorem CSt_fr {n : Nat} {B : Nat → Int32} {ord : Bool} {g g' : gb_G} {s s' l c : Nat} {φ : Bool} (h : CSt n B ord g s l c φ) (h2 : cS g' n B s') (hs : s ≤ s') (e : ∀ a k, ¬ a = 43 → g'.1 a k = g.1 a k) : CSt n B ord g' s' l c φ := by
  obtain ⟨a1, a2, a3, a4, a5, a6, a7⟩ := h
  exact ⟨h2, (e _ _ (by omega)).trans a2, (e _ _ (by omega)).trans a3, (e _ _ (by omega)).trans a4, (e _ _ (by omega)).trans a5, by omega, a7⟩
theorem sx_b {n s s1 k : Nat} {B : Nat → Int32} (h : sx n B s s1 = some k) : s < n ∧ k < (sgs s1).length ∧ B s = (sgs s1).getD k 0 := by
  unfold sx at h
  split at h
  · next q =>
    refine ⟨q, ?_⟩
    have key : ∀ (l : List Int32) (i : Nat), sxl (B s) l i = some k → i ≤ k ∧ k < i + l.length ∧ B s = l.getD (k - i) 0 := by
      intro l
      induction l with
      | nil => intro i h; cases h
      | cons c r ih =>
        intro i h
        rw [sxl] at h
        split at h
        · next z =>
          cases h
          refine ⟨Nat.le_refl _, by rw [List.length_cons]; omega, ?_⟩
          rw [Nat.sub_self, List.getD_cons_zero]; exact z
        · have i1 := ih (i + 1) h
          refine ⟨by omega, by rw [List.length_cons]; omega, ?_⟩
          rw [show k - i = (k - (i + 1)) + 1 by omega, List.getD_cons_succ]; exact i1.2.2
    have k0 := key _ _ h
    rw [Nat.sub_zero] at k0
    exact ⟨by omega, k0.2.2⟩
  · cases h
def sxv (n : Nat) (B : Nat → Int32) (s s1 : Nat) : Int32 := match sx n B s s1 with
  | none => -1
  | some k => Int32.ofNat k
theorem VD_b {nw op : Nat} {D1 D2 : Den} : VD nw (Db op D1 D2) := by
  intro w _ v h
  unfold Db at h
  split at h
  · cases h
  · split at h
    · cases h
    · exact jn_b h
theorem Dep_b {ord φ1 φ2 : Bool} {op : Nat} {D1 D2 : Den} (h1 : Dep ord φ1 D1) (h2 : Dep ord φ2 D2) : Dep ord (φ1 || φ2) (Db op D1 D2) := by
  intro w w' h
  unfold Db
  rw [h1 w w' fun j hj q => h j hj fun z y => by rw [q z y]; rfl, h2 w w' fun j hj q => h j hj fun z y => by rw [q z y, Bool.or_true]]
theorem binc {sh : List gb_Sh} {n s1 off d : Nat} {B : Nat → Int32} {ord : Bool} {R : gb_G → Int32 → Option (gb_G × Int32)} {pO : Nat → Nat → Ou} (L : Nat → gb_G → Int32 → Int32 → Int32 → Int32 → Option (gb_G × Int32)) (hn : n ≤ 400) (hB : ∀ j, j < n → im 0 255 (B j)) (hl1 : gb_ln sh 47 = 400) (hl2 : gb_ln sh 48 = 400) (hs1 : 8 ≤ s1 ∧ s1 ≤ 10) (hoff : off + (sgs s1).length ≤ 8)
    (hL : ∀ f g y1 y2 y3 y4, L (f + 1) g y1 y2 y3 y4 = if 400 ≤ y4 then (gb_bo y2 (some (g, y2))) else (if y2 = 0 then (gb_bo y2 (some (g, y2))) else (if y3 = (-1) then (gb_bo y2 (some (g, y2))) else (gb_bd (f_X9_step sh g) (fun r8 => gb_bd (R r8 y1) (fun r10 => gb_bd (f_X7_emit sh r10.1 46 (Int32.ofNat (5 + off) + y3) 0) (fun r12 => gb_bd (f_X9_signIn sh r12.1 s1) (fun r14 => L f r14.1 y1 r10.2 r14.2 (y4 + 1)))))))))
    (hR : ∀ s l, CO n B ord R s l d (pO s l)) (hV : ∀ s l, s ≤ n → l ≤ 50 → VO n ord s l (pO s l)) {g0 : gb_G} {s0 l0 c0 : Nat} {φ0 : Bool} : ∀ (f s l : Nat) (D : Den) (φ : Bool) (g : gb_G) (c y4 F : Nat), n ≤ s + f → CI n B ord g0 s0 l0 c0 φ0 g s l c D φ → VD (nW ord) D → l0 < l → s0 < s → y4 ≤ s → f + 1 ≤ F → CO1 n B ord g0 s0 l0 c0 φ0 (L F g (Int32.ofNat d) 1 (sxv n B s s1) (Int32.ofNat y4)) (binL n B s1 off pO f s l D φ) := by
  have fin : ∀ (F : Nat) (g : gb_G) (y1 y3 y4 : Int32), L (F + 1) g y1 0 y3 y4 = some (g, 0) := by
    intro F g y1 y3 y4
    rw [hL, gb_bo_s (Or.inl rfl), if_pos rfl]
    split <;> rfl
  have fin1 : ∀ (F : Nat) (g : gb_G) (y1 y4 : Int32), L (F + 1) g y1 1 (-1) y4 = some (g, 1) := by
    intro F g y1 y4
    rw [hL, gb_bo_s (Or.inr rfl), if_neg (show ¬ (1 : Int32) = 0 by decide), if_pos rfl]
    split <;> rfl
  intro f
  induction f with
  | zero =>
    intro s l D φ g c y4 F hf hI hD hl hs hy hF
    have hsn := hI.1.1.2.1
    obtain ⟨F', rfl⟩ : ∃ F', F = F' + 1 := ⟨F - 1, by omega⟩
    rw [binL, show sxv n B s s1 = -1 by unfold sxv sx; rw [if_neg (by omega)], fin1]
    exact ⟨g, c, rfl, hI⟩
  | succ f ih =>
    intro s l D φ g c y4 F hf hI hD hl hs hy hF
    obtain ⟨hC, i2, i3, i4, i5, i6⟩ := hI
    have hsn := hC.1.2.1
    obtain ⟨F', rfl⟩ : ∃ F', F = F' + 1 := ⟨F - 1, by omega⟩
    rw [binL]
    unfold sxv
    cases hk : sx n B s s1 with
    | none =>
      simp only []
      rw [fin1]
      exact ⟨g, c, rfl, hC, i2, i3, i4, i5, i6⟩
    | some k =>
      simp only []
      obtain ⟨k1, k2, -⟩ := sx_b hk
      have ht := tn_b (B := B) hsn
      obtain ⟨g1, e1, p1⟩ := step_c (sh := sh) hn hC.1
      have F1 := w_X9_step e1
      have hC1 : CSt n B ord g1 (tn n B s) l c (φ0 || φ) := CSt_fr hC p1 ht.1 fun a k q => (F1 a k (by omega)).1
      have r := hR (tn n B s) l g1 c (φ0 || φ) hC1
      have v := hV (tn n B s) l ht.2.1 hC.2.2.2.2.2.2
      rw [hL, if_neg (by rw [show (400 : Int32) = Int32.ofNat 400 from rfl, o_le (by omega) (by omega)]; omega), if_neg (show ¬ (1 : Int32) = 0 by decide), if_neg (o_ne1 (by omega)), e1, gb_bd_s, o_add]
      cases ho : pO (tn n B s) l with
      | inl p =>
        rw [ho] at r
        obtain ⟨r1, c', r2, r3, r4, r5⟩ := r
        obtain ⟨o, c'', q1, q2, q3, q4⟩ := emit_ct (sh := sh) (x := Int32.ofNat (5 + off + k)) (y := 0) hl1 hl2 r4 r5
        have q5 : cS o n B p := cS_fr r3 fun a k z => q4 a k (by omega) (by omega) (by omega)
        rw [r2, gb_bd_s]
        simp only []
        rw [q1, gb_bd_s]
        simp only []
        rw [sI_c hn hB hs1 q5, gb_bd_s]
        simp only []
        obtain ⟨F'', rfl⟩ : ∃ F'', F' = F'' + 1 := ⟨F' - 1, by omega⟩
        rw [fin]
        exact ⟨o, c'', rfl, q5, q2, q3⟩
      | inr x =>
        obtain ⟨s', l', D', φ'⟩ := x
        rw [ho] at r v
        obtain ⟨r1, c', r2, r3, r4, r5, r6, r7, r8⟩ := r
        obtain ⟨v1, v2, v3, v4, v5, v6⟩ := v
        obtain ⟨a1, a2, a3, a4, a5, a6, a7⟩ := r3
        have hc6 := hC.2.2.2.2.2.1
        obtain ⟨o, q1, q2, q3, q4, q5⟩ := emit_c (sh := sh) (g := r1) (x := Int32.ofNat (5 + off + k)) (y := 0) hl1 hl2 a4 (by omega)
        have q6 : cS o n B s' := cS_fr a1 fun a k z => q5 a k (by omega) (by omega) (by omega)
        rw [r2, gb_bd_s]
        simp only []
        rw [q1, gb_bd_s]
        simp only []
        rw [sI_c hn hB hs1 q6, gb_bd_s]
        simp only []
        rw [o_succ]
        refine ih s' l' (Db (off + k) D D') (φ || φ') o (c' + 1) (y4 + 1) F' (by omega) ⟨⟨q6, (q5 _ _ (by omega) (by omega) (by omega)).trans a2, (q5 _ _ (by omega) (by omega) (by omega)).trans a3, q2, ?_, by omega, a7⟩, by omega, by omega, fun i hi => ?_, ?_, ?_, fun k => ?_⟩ VD_b (by omega) (by omega) (by omega) (by omega)
        · rw [q5 _ _ (by omega) (by omega) (by omega), a5, Bool.or_assoc]
        · rw [q3, q4, upn (by omega), upn (by omega), (r6 i (by omega)).1, (r6 i (by omega)).2, (F1 47 i (by omega)).1, (F1 48 i (by omega)).1]
          exact i4 i hi
        · rw [show l' - l0 = (l - l0) + (l' - l) by omega]
          refine XC_bin (m := c) (i5.eq fun i hi hj => ?_) (r7.eq fun i hi hj => ?_) hD v5 ?_ (by omega) (by omega) (by omega) (by omega) (by omega)
          · rw [q3, q4, upn (by omega), upn (by omega), (r6 i (by omega)).1, (r6 i (by omega)).2, (F1 47 i (by omega)).1, (F1 48 i (by omega)).1]
            exact ⟨rfl, rfl⟩
          · rw [q3, q4, upn (by omega), upn (by omega)]; exact ⟨rfl, rfl⟩
          · rw [q3, upe, show 5 + off + k = 5 + (off + k) by omega]
        · rw [q5 _ _ (by omega) (by omega) (by omega), r8.1, (F1 46 3 (by omega)).1]; exact i6.1
        · rw [q5 _ _ (by omega) (by omega) (by omega), r8.2, (F1 50 k (by omega)).1]; exact i6.2 k
/-- TERMS and SUMS -/
theorem binc0 {sh : List gb_Sh} {n s1 off d : Nat} {B : Nat → Int32} {ord : Bool} {R : gb_G → Int32 → Option (gb_G × Int32)} {pO : Nat → Nat → Ou} (L : Nat → gb_G → Int32 → Int32 → Int32 → Int32 → Option (gb_G × Int32)) (hn : n ≤ 400) (hB : ∀ j, j < n → im 0 255 (B j)) (hl1 : gb_ln sh 47 = 400) (hl2 : gb_ln sh 48 = 400) (hs1 : 8 ≤ s1 ∧ s1 ≤ 10) (hoff : off + (sgs s1).length ≤ 8)
    (hL : ∀ f g y1 y2 y3 y4, L (f + 1) g y1 y2 y3 y4 = if 400 ≤ y4 then (gb_bo y2 (some (g, y2))) else (if y2 = 0 then (gb_bo y2 (some (g, y2))) else (if y3 = (-1) then (gb_bo y2 (some (g, y2))) else (gb_bd (f_X9_step sh g) (fun r8 => gb_bd (R r8 y1) (fun r10 => gb_bd (f_X7_emit sh r10.1 46 (Int32.ofNat (5 + off) + y3) 0) (fun r12 => gb_bd (f_X9_signIn sh r12.1 s1) (fun r14 => L f r14.1 y1 r10.2 r14.2 (y4 + 1)))))))))
    (hR : ∀ s l, CO n B ord R s l d (pO s l)) (hV : ∀ s l, s ≤ n → l ≤ 50 → VO n ord s l (pO s l)) (s l : Nat) : CO n B ord (fun g x1 => gb_bd (R g x1) (fun r1 => gb_bd (f_X9_signIn sh r1.1 s1) (fun r3 => L gb_N r3.1 x1 r1.2 r3.2 0))) s l d (binO n B s1 off pO s l) := by
  intro g c φ0 hC
  have r := hR s l g c φ0 hC
  have v := hV s l hC.1.2.1 hC.2.2.2.2.2.2
  show CO1 n B ord g s l c φ0 (gb_bd (R g (Int32.ofNat d)) (fun r1 => gb_bd (f_X9_signIn sh r1.1 s1) (fun r3 => L gb_N r3.1 (Int32.ofNat d) r1.2 r3.2 0))) _
  unfold binO
  cases ho : pO s l with
  | inl p =>
    rw [ho] at r
    obtain ⟨r1, c', r2, r3, r4, r5⟩ := r
    rw [r2, gb_bd_s]
    simp only []
    rw [sI_c hn hB hs1 r3, gb_bd_s]
    simp only []
    rw [show gb_N = 999999 + 1 from rfl, hL, gb_bo_s (Or.inl rfl), if_pos rfl]
    exact ⟨r1, c', by split <;> rfl, r3, r4, r5⟩
  | inr x =>
    obtain ⟨s', l', D', φ'⟩ := x
    rw [ho] at r v
    obtain ⟨r1, c', r2, r3⟩ := r
    obtain ⟨v1, v2, v3, v4, v5, v6⟩ := v
    rw [r2, gb_bd_s]
    simp only []
    rw [sI_c hn hB hs1 r3.1.1, gb_bd_s]
    exact binc L hn hB hl1 hl2 hs1 hoff hL hR hV 400 s' l' D' φ' r1 c' 0 gb_N (by omega) r3 v5 v3 v1 (by omega) (by rw [show gb_N = 1000000 from rfl]; omega)
theorem term_c {sh : List gb_Sh} {n d : Nat} {B : Nat → Int32} {ord : Bool} {R : gb_G → Int32 → Option (gb_G × Int32)} {pO : Nat → Nat → Ou} (hn : n ≤ 400) (hB : ∀ j, j < n → im 0 255 (B j)) (hl1 : gb_ln sh 47 = 400) (hl2 : gb_ln sh 48 = 400) (hR : ∀ s l, CO n B ord R s l d (pO s l)) (hV : ∀ s l, s ≤ n → l ≤ 50 → VO n ord s l (pO s l)) (s l : Nat) : CO n B ord (fun g x => f_X8_readTerm sh R g x) s l d (binO n B 10 2 pO s l) :=
  binc0 (fun f => f_X8_readTerm_19 sh R f) hn hB hl1 hl2 (by omega) (by decide) (fun f g y1 y2 y3 y4 => by rw [f_X8_readTerm_19]; rfl) hR hV s l
theorem sum_c {sh : List gb_Sh} {n d : Nat} {B : Nat → Int32} {ord : Bool} {R : gb_G → Int32 → Option (gb_G × Int32)} {pO : Nat → Nat → Ou} (hn : n ≤ 400) (hB : ∀ j, j < n → im 0 255 (B j)) (hl1 : gb_ln sh 47 = 400) (hl2 : gb_ln sh 48 = 400) (hR : ∀ s l, CO n B ord R s l d (pO s l)) (hV : ∀ s l, s ≤ n → l ≤ 50 → VO n ord s l (pO s l)) (s l : Nat) : CO n B ord (fun g x => f_X8_readSum sh R g x) s l d (binO n B 9 0 pO s l) :=
  binc0 (fun f => f_X8_readSum_19 sh R f) hn hB hl1 hl2 (by omega) (by decide) (fun f g y1 y2 y3 y4 => by rw [f_X8_readSum_19]; rfl) hR hV s l
/-- a PART -/
theorem part_c {sh : List gb_Sh} {n d : Nat} {B : Nat → Int32} {ord : Bool} {R : gb_G → Int32 → Option (gb_G × Int32)} {sO : Nat → Nat → Ou} (hn : n ≤ 400) (hl1 : gb_ln sh 47 = 400) (hl2 : gb_ln sh 48 = 400) (hd : d ≤ 8) (hR : d < 8 → ∀ s l, CO n B ord R s l (d + 1) (sO s l)) (s l : Nat) : CO n B ord (fun g x => f_X8_readPart sh R g x) s l d (partO n B ord sO d s l) := by
  intro g c φ0 hC
  have hsn := hC.1.2.1
  have ht := tn_b (B := B) hsn
  show CO1 n B ord g s l c φ0 (f_X8_readPart sh R g (Int32.ofNat d)) _
  unfold f_X8_readPart partO
  rw [sg_c hn hC.1 (by decide)]
  by_cases q : isG n B s 91
  · rw [if_pos q, if_pos q, bt]
    simp only []
    by_cases q8 : 8 ≤ d
    · rw [if_pos q8, if_pos (by rw [show (8 : Int32) = Int32.ofNat 8 from rfl, o_le (by omega) (by omega)]; exact q8)]
      exact ⟨g, c, rfl, hC.1, hC.2.2.2.1, by have := hC.2.2.2.2.2.1; omega⟩
    · rw [if_neg q8, if_neg (by rw [show (8 : Int32) = Int32.ofNat 8 from rfl, o_le (by omega) (by omega)]; exact q8)]
      obtain ⟨g1, e1, p1, e1'⟩ := rs_t (sh := sh) hn (show ¬ (91 : Int32) = -1 by decide) hC.1 q
      have F1 := w_X9_step e1'
      have hC1 : CSt n B ord g1 (tn n B s) l c φ0 := CSt_fr hC p1 ht.1 fun a k q => (F1 a k (by omega)).1
      have r := hR (by omega) (tn n B s) l g1 c φ0 hC1
      rw [e1, bt]
      simp only []
      rw [o_succ]
      cases ho : sO (tn n B s) l with
      | inl p =>
        rw [ho] at r
        obtain ⟨r1, c', r2, r3, r4, r5⟩ := r
        rw [r2, bf]
        exact ⟨r1, c', rfl, r3, r4, r5⟩
      | inr x =>
        obtain ⟨s', l', D', φ'⟩ := x
        rw [ho] at r
        obtain ⟨r1, c', r2, r3, r4, r5, r6, r7, r8⟩ := r
        have ht' := tn_b (B := B) r3.1.2.1
        have hc' := r3.2.2.2.2.2.1
        rw [r2, bt]
        simp only []
        by_cases z : isG n B s' 93
        · obtain ⟨g2, e2, p2, e2'⟩ := rs_t (sh := sh) hn (show ¬ (93 : Int32) = -1 by decide) r3.1 z
          have F2 := w_X9_step e2'
          rw [e2, bt, if_pos z]
          refine ⟨g2, c', rfl, CSt_fr r3 p2 ht'.1 fun a k q => (F2 a k (by omega)).1, r4, by omega, fun i hi => ?_, r7.eq fun i _ _ => ?_, ?_, fun k => ?_⟩
          · rw [(F2 47 i (by omega)).1, (F2 48 i (by omega)).1, (r6 i hi).1, (r6 i hi).2, (F1 47 i (by omega)).1, (F1 48 i (by omega)).1]; exact ⟨rfl, rfl⟩
          · rw [(F2 47 i (by omega)).1, (F2 48 i (by omega)).1]; exact ⟨rfl, rfl⟩
          · rw [(F2 46 3 (by omega)).1, r8.1, (F1 46 3 (by omega)).1]
          · rw [(F2 50 k (by omega)).1, r8.2, (F1 50 k (by omega)).1]
        · rw [rs_f hn (by decide) r3.1 z, bf, if_neg z]
          exact ⟨r1, c', rfl, r3.1, r3.2.2.2.1, by have := r3.1.2.1; omega⟩
  · rw [if_neg q, if_neg q, bf]
    exact lf_c (sh := sh) (d := d) hn hl1 hl2 g c φ0 hC
