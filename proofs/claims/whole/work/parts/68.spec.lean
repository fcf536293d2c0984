/-! ===== what is told, as a whole; the class reads so ===== -/
def EO (E : Nat → Den → Prop) : Ou → Prop
  | .inl _ => True
  | .inr (s', _, D, _) => E s' D
theorem lfO_v {n s l : Nat} {B : Nat → Int32} {ord : Bool} (hs : s ≤ n) (hl : l ≤ 50) : VO n ord s l (lfO n B ord s l) := by
  have ht := tn_b (B := B) hs
  unfold lfO
  split
  · exact hs
  · split
    · next q1 q2 =>
      split
      · next v =>
        refine ⟨ht.2.2 (kd_n (show ¬ kd n B s = 0 by omega)), ht.2.1, by omega, by omega, fun w _ v' h => ?_, fun w w' _ => rfl⟩
        cases h
        rw [im9, im, o_int (by omega)]; omega
      · exact hs
    · next q1 q2 =>
      split
      · exact hs
      · next k hk =>
        obtain ⟨h1, h2⟩ := fW_b hk hs
        split
        · next q3 =>
          have ht2 := tn_b (B := B) ht.2.1
          obtain ⟨o1, o2⟩ := q3
          subst o1
          have h7 : k < 7 := h2
          split
          · next v =>
            have hlt := ht.2.2 h1
            refine ⟨by omega, ht2.2.1, by omega, by omega, fun w hw v' h => ?_, fun w w' h => ?_⟩
            · cases h
              exact hw _ (show _ < 21 by omega)
            · show some _ = some _
              rw [h _ (show _ < 21 by omega) fun _ z => by omega]
          · exact ht.2.1
        · next q3 =>
          have hj : k < nW ord := by
            unfold nW
            split at h2
            · next z => rw [if_pos z]; omega
            · next z => rw [if_neg z]; omega
          refine ⟨ht.2.2 h1, ht.2.1, by omega, by omega, fun w hw v' h => ?_, fun w w' h => ?_⟩
          · cases h
            exact hw _ hj
          · show some _ = some _
            rw [h _ hj fun z y => by rw [z, y]; rfl]
theorem partO_v {n d s l : Nat} {B : Nat → Int32} {ord : Bool} {sO : Nat → Nat → Ou} (hs : s ≤ n) (hl : l ≤ 50) (hV : ∀ s l, s ≤ n → l ≤ 50 → VO n ord s l (sO s l)) : VO n ord s l (partO n B ord sO d s l) := by
  have ht := tn_b (B := B) hs
  unfold partO
  split
  · next q =>
    split
    · exact hs
    · have v := hV (tn n B s) l ht.2.1 hl
      cases ho : sO (tn n B s) l with
      | inl p => rw [ho] at v; exact v
      | inr x =>
        obtain ⟨s', l', D, φ⟩ := x
        rw [ho] at v
        obtain ⟨v1, v2, v3, v4, v5, v6⟩ := v
        have ht' := tn_b (B := B) v2
        show VO n ord s l (if isG n B s' 93 then .inr (tn n B s', l', D, φ) else .inl s')
        split
        · exact ⟨by omega, ht'.2.1, v3, v4, v5, v6⟩
        · exact v2
  · exact lfO_v hs hl
theorem binL_v {n s1 off : Nat} {B : Nat → Int32} {ord : Bool} {pO : Nat → Nat → Ou} {E : Nat → Prop} (hV : ∀ s l, s ≤ n → l ≤ 50 → VO n ord s l (pO s l)) (hE : ∀ s l, s ≤ n → l ≤ 50 → EO (fun s' _ => E s') (pO s l)) {s0 l0 : Nat} : ∀ (f s l : Nat) (D : Den) (φ : Bool), n ≤ s + f → VO n ord s0 l0 (.inr (s, l, D, φ)) → E s → VO n ord s0 l0 (binL n B s1 off pO f s l D φ) ∧ EO (fun s' _ => E s' ∧ sx n B s' s1 = none) (binL n B s1 off pO f s l D φ) := by
  intro f
  induction f with
  | zero =>
    intro s l D φ hf hv he
    exact ⟨hv, he, by unfold sx; rw [if_neg (by omega)]⟩
  | succ f ih =>
    intro s l D φ hf hv he
    rw [binL]
    cases hk : sx n B s s1 with
    | none => exact ⟨hv, he, hk⟩
    | some k =>
      obtain ⟨u1, u2, u3, u4, u5, u6⟩ := hv
      have ht := tn_b (B := B) u2
      have v := hV (tn n B s) l ht.2.1 u4
      have ve := hE (tn n B s) l ht.2.1 u4
      simp only []
      cases ho : pO (tn n B s) l with
      | inl p => rw [ho] at v; exact ⟨v, trivial⟩
      | inr x =>
        obtain ⟨s', l', D', φ'⟩ := x
        rw [ho] at v ve
        obtain ⟨v1, v2, v3, v4, v5, v6⟩ := v
        exact ih s' l' _ _ (by omega) ⟨by omega, v2, by omega, v4, VD_b, Dep_b u6 v6⟩ ve
theorem binO_v {n s1 off s l : Nat} {B : Nat → Int32} {ord : Bool} {pO : Nat → Nat → Ou} {E : Nat → Prop} (hn : n ≤ 400) (hs : s ≤ n) (hl : l ≤ 50) (hV : ∀ s l, s ≤ n → l ≤ 50 → VO n ord s l (pO s l)) (hE : ∀ s l, s ≤ n → l ≤ 50 → EO (fun s' _ => E s') (pO s l)) : VO n ord s l (binO n B s1 off pO s l) ∧ EO (fun s' _ => E s' ∧ sx n B s' s1 = none) (binO n B s1 off pO s l) := by
  have v := hV s l hs hl
  have ve := hE s l hs hl
  unfold binO
  cases ho : pO s l with
  | inl p => rw [ho] at v; exact ⟨v, trivial⟩
  | inr x =>
    obtain ⟨s', l', D', φ'⟩ := x
    rw [ho] at v ve
    exact binL_v hV hE 400 s' l' D' φ' (by omega) v ve
theorem TD_n {nw : Nat} {D : Den} (h : TD nw D) : TD nw (Dn D) := by
  intro w hw v e
  unfold Dn at e
  split at e
  · cases e
  · next x hx =>
    cases e
    rcases h w hw x hx with z | z <;> rw [z] <;> decide
theorem TD_k {nw : Nat} {D : Den} (h : TD nw D) : ∀ k, TD nw (Dk k D) := by
  intro k
  induction k with
  | zero => exact h
  | succ k ih => exact TD_n ih
theorem TD_b {nw op : Nat} {D1 D2 : Den} (h : 5 ≤ op) : TD nw (Db op D1 D2) := by
  intro w _ v e
  unfold Db at e
  split at e
  · cases e
  · split at e
    · cases e
    · exact jn_01 h e
theorem TD_o {nw : Nat} {c : Int32} {D1 D2 : Den} (hc : c = 0 ∨ c = 1) (h : TD nw D2) : TD nw (Do c D1 D2) := by
  intro w hw v e
  unfold Do at e
  split at e
  · cases e
  · split at e
    · cases e; exact hc
    · exact h w hw v e
theorem TD_V {nw : Nat} {D : Den} (h : TD nw D) : VD nw D := by
  intro w hw v e
  rcases h w hw v e with z | z <;> rw [z] <;> rw [im9, im] <;> decide
theorem Dep_n {ord φ : Bool} {D : Den} (h : Dep ord φ D) : Dep ord φ (Dn D) := by
  intro w w' q
  unfold Dn
  rw [h w w' q]
theorem Dep_k {ord φ : Bool} {D : Den} (h : Dep ord φ D) : ∀ k, Dep ord φ (Dk k D) := by
  intro k
  induction k with
  | zero => exact h
  | succ k ih => exact Dep_n ih
theorem Dep_o {ord φ1 φ2 : Bool} {c : Int32} {D1 D2 : Den} (h1 : Dep ord φ1 D1) (h2 : Dep ord φ2 D2) : Dep ord (φ1 || φ2) (Do c D1 D2) := by
  intro w w' h
  unfold Do
  rw [h1 w w' fun j hj q => h j hj fun z y => by rw [q z y]; rfl, h2 w w' fun j hj q => h j hj fun z y => by rw [q z y, Bool.or_true]]
theorem plainO_v {n d s l : Nat} {B : Nat → Int32} {ord : Bool} {sO tO : Nat → Nat → Ou} (hs : s ≤ n) (hl : l ≤ 50) (hV : ∀ s l, s ≤ n → l ≤ 50 → VO n ord s l (sO s l)) (hVT : ∀ s l, s ≤ n → l ≤ 50 → VO n ord s l (tO s l)) (hT : ∀ s l, s ≤ n → l ≤ 50 → EO (fun _ D => TD (nW ord) D) (tO s l)) : VO n ord s l (plainO n B sO tO d s l) ∧ EO (fun _ D => TD (nW ord) D) (plainO n B sO tO d s l) := by
  have hb := nts_b (B := B) 400 s hs
  unfold plainO
  generalize hq : nts n B 400 s = q at *
  obtain ⟨s1, k⟩ := q
  simp only [] at hb ⊢
  have ht := tn_b (B := B) hb.2.1
  split
  · split
    · exact ⟨hb.2.1, trivial⟩
    · have v := hVT (tn n B s1) l ht.2.1 hl
      have t := hT (tn n B s1) l ht.2.1 hl
      cases ho : tO (tn n B s1) l with
      | inl p => rw [ho] at v; exact ⟨v, trivial⟩
      | inr x =>
        obtain ⟨s', l', D, φ⟩ := x
        rw [ho] at v t
        obtain ⟨v1, v2, v3, v4, v5, v6⟩ := v
        have ht' := tn_b (B := B) v2
        show VO n ord s l (if isG n B s' 41 then .inr (tn n B s', l', Dk k D, φ) else .inl s') ∧ EO _ (if isG n B s' 41 then .inr (tn n B s', l', Dk k D, φ) else .inl s')
        split
        · exact ⟨⟨by omega, ht'.2.1, v3, v4, TD_V (TD_k t k), Dep_k v6 k⟩, TD_k t k⟩
        · exact ⟨v2, trivial⟩
  · have v := hV s1 l hb.2.1 hl
    cases ho : sO s1 l with
    | inl p => rw [ho] at v; exact ⟨v, trivial⟩
    | inr x =>
      obtain ⟨s', l', D, φ⟩ := x
      rw [ho] at v
      obtain ⟨v1, v2, v3, v4, v5, v6⟩ := v
      have ht' := tn_b (B := B) v2
      simp only []
      cases hx : sx n B s' 8 with
      | none => exact ⟨v2, trivial⟩
      | some j =>
        have v' := hV (tn n B s') l' ht'.2.1 v4
        simp only []
        cases ho' : sO (tn n B s') l' with
        | inl p => rw [ho'] at v'; exact ⟨v', trivial⟩
        | inr x' =>
          obtain ⟨s'', l'', D', φ'⟩ := x'
          rw [ho'] at v'
          obtain ⟨w1, w2, w3, w4, w5, w6⟩ := v'
          have t : TD (nW ord) (Dk k (Db (5 + j) D D')) := TD_k (TD_b (by omega)) k
          exact ⟨⟨by omega, w2, by omega, w4, TD_V t, Dep_k (Dep_b v6 w6) k⟩, t⟩
theorem andL_v {n s1 : Nat} {cv : Int32} {B : Nat → Int32} {ord : Bool} {pO : Nat → Nat → Ou} {E : Nat → Prop} (hs1 : 2 ≤ s1 ∧ s1 ≤ 7) (hc : cv = 0 ∨ cv = 1) (hV : ∀ s l, s ≤ n → l ≤ 50 → VO n ord s l (pO s l)) (hE : ∀ s l, s ≤ n → l ≤ 50 → EO (fun s' D => TD (nW ord) D ∧ E s') (pO s l)) {s0 l0 : Nat} : ∀ (f s l : Nat) (D : Den) (φ : Bool), n ≤ s + f → VO n ord s0 l0 (.inr (s, l, D, φ)) → TD (nW ord) D ∧ E s → VO n ord s0 l0 (andL n B s1 cv pO f s l D φ) ∧ EO (fun s' D => TD (nW ord) D ∧ E s' ∧ ¬ isK n B s' s1) (andL n B s1 cv pO f s l D φ) := by
  intro f
  induction f with
  | zero =>
    intro s l D φ hf hv he
    exact ⟨hv, he.1, he.2, fun z => by have := isK_n hs1 hv.2.1 z; omega⟩
  | succ f ih =>
    intro s l D φ hf hv he
    rw [andL]
    by_cases q : isK n B s s1
    · obtain ⟨u1, u2, u3, u4, u5, u6⟩ := hv
      have ht := tn_b (B := B) u2
      have hlt := isK_n hs1 u2 q
      have v := hV (tn n B s) l ht.2.1 u4
      have ve := hE (tn n B s) l ht.2.1 u4
      rw [if_pos q]
      cases ho : pO (tn n B s) l with
      | inl p => rw [ho] at v; exact ⟨v, trivial⟩
      | inr x =>
        obtain ⟨s', l', D', φ'⟩ := x
        rw [ho] at v ve
        obtain ⟨v1, v2, v3, v4, v5, v6⟩ := v
        have t : TD (nW ord) (Do cv D D') := TD_o hc ve.1
        exact ih s' l' _ _ (by omega) ⟨by omega, v2, by omega, v4, TD_V t, Dep_o u6 v6⟩ ⟨t, ve.2⟩
    · rw [if_neg q]
      exact ⟨hv, he.1, he.2, q⟩
theorem andO_v {n s1 s l : Nat} {cv : Int32} {B : Nat → Int32} {ord : Bool} {pO : Nat → Nat → Ou} {E : Nat → Prop} (hn : n ≤ 400) (hs1 : 2 ≤ s1 ∧ s1 ≤ 7) (hc : cv = 0 ∨ cv = 1) (hs : s ≤ n) (hl : l ≤ 50) (hV : ∀ s l, s ≤ n → l ≤ 50 → VO n ord s l (pO s l)) (hE : ∀ s l, s ≤ n → l ≤ 50 → EO (fun s' D => TD (nW ord) D ∧ E s') (pO s l)) : VO n ord s l (andO n B s1 cv pO s l) ∧ EO (fun s' D => TD (nW ord) D ∧ E s' ∧ ¬ isK n B s' s1) (andO n B s1 cv pO s l) := by
  have v := hV s l hs hl
  have ve := hE s l hs hl
  unfold andO
  cases ho : pO s l with
  | inl p => rw [ho] at v; exact ⟨v, trivial⟩
  | inr x =>
    obtain ⟨s', l', D', φ'⟩ := x
    rw [ho] at v ve
    exact andL_v hs1 hc hV hE 400 s' l' D' φ' (by omega) v ve
/-- all of it, as f_RD: sum, term, part, test, both, plain -/
def spO (n : Nat) (B : Nat → Int32) (ord : Bool) : Nat → Nat → Nat → Nat → Nat → Ou
  | 0, _, _, s, _ => .inl s
  | m + 1, 0, d, s, l => binO n B 9 0 (spO n B ord m 1 d) s l
  | m + 1, 1, d, s, l => binO n B 10 2 (spO n B ord m 2 d) s l
  | m + 1, 2, d, s, l => partO n B ord (spO n B ord m 0 (d + 1)) d s l
  | m + 1, 3, d, s, l => andO n B 5 1 (spO n B ord m 4 d) s l
  | m + 1, 4, d, s, l => andO n B 6 0 (spO n B ord m 5 d) s l
  | m + 1, 5, d, s, l => plainO n B (spO n B ord m 0 d) (spO n B ord m 3 (d + 1)) d s l
  | _ + 1, _ + 6, _, s, _ => .inl s
def spE (n : Nat) (B : Nat → Int32) (ord : Bool) (i : Nat) (s' : Nat) (D : Den) : Prop := match i with
  | 0 => sx n B s' 10 = none ∧ sx n B s' 9 = none
  | 1 => sx n B s' 10 = none
  | 3 => TD (nW ord) D ∧ ¬ isK n B s' 6 ∧ ¬ isK n B s' 5
  | 4 => TD (nW ord) D ∧ ¬ isK n B s' 6
  | 5 => TD (nW ord) D
  | _ => True
theorem EO_mo {E E' : Nat → Den → Prop} {o : Ou} (h : EO E o) (q : ∀ s D, E s D → E' s D) : EO E' o := by
  cases o with
  | inl p => trivial
  | inr x => exact q _ _ h
theorem EO_tr {o : Ou} : EO (fun _ _ => True) o := by
  cases o with
  | inl p => trivial
  | inr x => trivial
theorem spO_v {n : Nat} {B : Nat → Int32} {ord : Bool} (hn : n ≤ 400) : ∀ (m i d s l : Nat), s ≤ n → l ≤ 50 → VO n ord s l (spO n B ord m i d s l) ∧ EO (spE n B ord i) (spO n B ord m i d s l) := by
  intro m
  induction m with
  | zero => intro i d s l hs hl; rw [spO]; exact ⟨hs, trivial⟩
  | succ m ih =>
    intro i d s l hs hl
    match i with
    | 0 =>
      rw [spO]
      have r := binO_v (B := B) (ord := ord) (s1 := 9) (off := 0) (E := fun s' => sx n B s' 10 = none) hn hs hl (fun s l h1 h2 => (ih 1 d s l h1 h2).1) (fun s l h1 h2 => (ih 1 d s l h1 h2).2)
      exact r
    | 1 =>
      rw [spO]
      have r := binO_v (B := B) (ord := ord) (s1 := 10) (off := 2) (E := fun _ => True) hn hs hl (fun s l h1 h2 => (ih 2 d s l h1 h2).1) (fun s l h1 h2 => EO_tr)
      exact ⟨r.1, EO_mo r.2 fun s D z => z.2⟩
    | 2 =>
      rw [spO]
      exact ⟨partO_v hs hl fun s l h1 h2 => (ih 0 (d + 1) s l h1 h2).1, EO_tr⟩
    | 3 =>
      rw [spO]
      exact andO_v hn (by omega) (Or.inr rfl) hs hl (fun s l h1 h2 => (ih 4 d s l h1 h2).1) (fun s l h1 h2 => (ih 4 d s l h1 h2).2)
    | 4 =>
      rw [spO]
      have r := andO_v (B := B) (ord := ord) (s1 := 6) (cv := 0) (E := fun _ => True) hn (by omega) (Or.inl rfl) hs hl (fun s l h1 h2 => (ih 5 d s l h1 h2).1) (fun s l h1 h2 => EO_mo (ih 5 d s l h1 h2).2 fun s D z => ⟨z, trivial⟩)
      exact ⟨r.1, EO_mo r.2 fun s D z => ⟨z.1, z.2.2⟩⟩
    | 5 =>
      rw [spO]
      exact plainO_v hs hl (fun s l h1 h2 => (ih 0 d s l h1 h2).1) (fun s l h1 h2 => (ih 3 (d + 1) s l h1 h2).1) (fun s l h1 h2 => EO_mo (ih 3 (d + 1) s l h1 h2).2 fun s D z => z.1)
    | i + 6 => rw [spO]; exact ⟨hs, EO_tr⟩
/-- how much fuel it needs -/
def spN (i d : Nat) : Nat := 3 * (8 - d) + (match i with
  | 0 => 3
  | 1 => 2
  | 2 => 1
  | 3 => 6
  | 4 => 5
  | _ => 4)
theorem RD_c {sh : List gb_Sh} {n : Nat} {B : Nat → Int32} {ord : Bool} (hn : n ≤ 400) (hB : ∀ j, j < n → im 0 255 (B j)) (hl1 : gb_ln sh 47 = 400) (hl2 : gb_ln sh 48 = 400) : ∀ (m i d : Nat), i < 6 → d ≤ 8 → spN i d ≤ m → ∀ s l, CO n B ord (fun g x => f_RD sh m i g x) s l d (spO n B ord m i d s l) := by
  intro m
  induction m with
  | zero =>
    intro i d hi hd hm s l
    unfold spN at hm
    split at hm <;> omega
  | succ m ih =>
    intro i d hi hd hm s l
    have hV : ∀ i d s l, s ≤ n → l ≤ 50 → VO n ord s l (spO n B ord m i d s l) := fun i d s l h1 h2 => (spO_v hn m i d s l h1 h2).1
    have e : i = 0 ∨ i = 1 ∨ i = 2 ∨ i = 3 ∨ i = 4 ∨ i = 5 := by omega
    rcases e with rfl | rfl | rfl | rfl | rfl | rfl
    · simp only [f_RD, spO]
      exact sum_c hn hB hl1 hl2 (ih 1 d (by omega) hd (by simp only [spN] at hm ⊢; omega)) (hV 1 d) s l
    · simp only [f_RD, spO]
      exact term_c hn hB hl1 hl2 (ih 2 d (by omega) hd (by simp only [spN] at hm ⊢; omega)) (hV 2 d) s l
    · simp only [f_RD, spO]
      exact part_c hn hl1 hl2 hd (fun h => ih 0 (d + 1) (by omega) (by omega) (by simp only [spN] at hm ⊢; omega)) s l
    · simp only [f_RD, spO]
      exact test_c hn hl1 hl2 (ih 4 d (by omega) hd (by simp only [spN] at hm ⊢; omega)) (hV 4 d) s l
    · simp only [f_RD, spO]
      exact both_c hn hl1 hl2 (ih 5 d (by omega) hd (by simp only [spN] at hm ⊢; omega)) (hV 5 d) s l
    · simp only [f_RD, spO]
      exact plain_c hn hB hl1 hl2 hd (ih 0 d (by omega) hd (by simp only [spN] at hm ⊢; omega)) (hV 0 d) (fun h => ih 3 (d + 1) (by omega) (by omega) (by simp only [spN] at hm ⊢; omega)) (fun _ => hV 3 (d + 1)) s l
