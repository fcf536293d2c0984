/-! ===== the reference's TOKENS ===== -/
def so (n : Nat) (B : Nat → Int32) (t : Nat) : Nat := if t < n then (if ky (B t) = 0 then 3 else ky (B t)) else 0
def wh (n : Nat) (B : Nat → Int32) (t : Nat) : Nat → Nat → Int64 → Int64
  | 0, _, a => a
  | f + 1, s, a => if s < n ∧ ky (B s) = 1 then wh n B t f (s + 1) (if 10 ≤ s - t then -1 else a * 32 + (B s).toInt64 - 96) else a
def wn (n : Nat) (B : Nat → Int32) : Nat → Nat → Int64 → Int64
  | 0, _, a => a
  | f + 1, s, a => if s < n ∧ ky (B s) = 2 then wn n B f (s + 1) (if lg_cmp a 1000000 ≤ 0 then a * 10 + (B s).toInt64 - 48 else a) else a
def wo (n : Nat) (B : Nat → Int32) (t : Nat) : Int64 := if t < n then (if ky (B t) = 0 then (B t).toInt64 else if ky (B t) = 1 then wh n B t 401 t 0 else wn n B 401 t 0) else 0
/-- the reference's tape stands at a TOKEN -/
def mS (g : gb_G) (n : Nat) (B : Nat → Int32) (t : Nat) : Prop := mvTp g n B ∧ t ≤ n ∧ g.1 77 14 = Int32.ofNat t ∧ g.1 77 15 = Int32.ofNat (stp n B t) ∧ g.1 77 16 = Int32.ofNat (so n B t) ∧ g.2.1 77 17 = wo n B t
def mQ (g o : gb_G) (n : Nat) (B : Nat → Int32) : Prop := mvTp o n B ∧ o.1 77 14 = g.1 77 14 ∧ o.1 77 16 = g.1 77 16
theorem nt243_no {sh : List gb_Sh} {g : gb_G} {F : Nat} (h : ¬ g.1 77 16 = 2) : f_X11_next_243 sh (F + 1) g = some g := by
  rw [f_X11_next_243, if_neg h]
theorem pij {g : gb_G} {c k : Nat} {x : Int64} : (gb_pj g c k x).1 = g.1 := rfl
theorem pk {g : gb_G} {c k c' k' : Nat} {x : Int64} : (gb_pj g c k x).1 c' k' = g.1 c' k' := rfl
theorem pjj {g : gb_G} {c k : Nat} {x : Int32} : (gb_pi g c k x).2.1 = g.2.1 := rfl
theorem nt243 {sh : List gb_Sh} {n : Nat} {B : Nat → Int32} (hn : n ≤ 400) : ∀ f s g F, n ≤ s + f → mvTp g n B → g.1 77 16 = 2 → g.1 77 15 = Int32.ofNat s → s ≤ n → gb_T (f_X11_next_243 sh (F + f + 1) g) (fun o => mQ g o n B ∧ o.1 77 15 = Int32.ofNat (rnn n B 2 f s) ∧ o.2.1 77 17 = wn n B f s (g.2.1 77 17)) := by
  intro f
  induction f with
  | zero =>
    intro s g F hf hT h4 h3 hs
    rw [f_X11_next_243, if_pos h4, hT.1, h3, if_pos (by rw [o_le (by omega) (by omega)]; omega)]
    exact ⟨g, rfl, ⟨hT, rfl, rfl⟩, h3, rfl⟩
  | succ f ih =>
    intro s g F hf hT h4 h3 hs
    rw [f_X11_next_243, if_pos h4, hT.1, h3]
    by_cases q : s < n
    · rw [if_neg (by rw [o_le (by omega) (by omega)]; omega), gb_ck_s (o_in (by omega) (by omega)), o_cl (by omega), hT.2 s q, ky_d, gb_bd_s]
      simp only []
      by_cases q2 : ky (B s) = 2
      · rw [if_pos q2, if_neg (show ¬ (1 : Int32) = 0 by decide)]
        have key : ∀ z : Int64, z = (if lg_cmp (g.2.1 77 17) 1000000 ≤ 0 then g.2.1 77 17 * 10 + (B s).toInt64 - 48 else g.2.1 77 17) → gb_T (f_X11_next_319 sh (fun w => f_X11_next_243 sh (F + f + 1) w) g z) (fun o => mQ g o n B ∧ o.1 77 15 = Int32.ofNat (rnn n B 2 (f + 1) s) ∧ o.2.1 77 17 = wn n B (f + 1) s (g.2.1 77 17)) := by
          intro z hz
          unfold f_X11_next_319
          rw [gb_let_s, gb_let_s, pij, h3, o_succ]
          obtain ⟨o, e, a, b, c⟩ := ih (s + 1) (gb_pi (gb_pj g 77 17 z) 77 15 (Int32.ofNat (s + 1))) F (by omega) ⟨(pi_n (by omega)).trans hT.1, fun j hj => (pi_n (by omega)).trans (hT.2 j hj)⟩ ((pi_n (by omega)).trans h4) pi_e (by omega)
          refine ⟨o, e, ⟨a.1, a.2.1.trans (pi_n (by omega)), a.2.2.trans (pi_n (by omega))⟩, ?_, ?_⟩
          · rw [b, rnn, if_pos ⟨q, q2⟩]
          · rw [c, pjj, pj_e, wn, if_pos ⟨q, q2⟩, hz]
        by_cases q3 : lg_cmp (g.2.1 77 17) 1000000 ≤ 0
        · rw [if_pos q3, h3, gb_ck_s (o_in (by omega) (by omega)), o_cl (by omega), hT.2 s q]
          exact key _ (by rw [if_pos q3])
        · rw [if_neg q3]
          exact key _ (by rw [if_neg q3])
      · rw [if_neg q2, if_pos rfl]
        refine ⟨g, rfl, ⟨hT, rfl, rfl⟩, ?_, ?_⟩
        · rw [rnn, if_neg (fun z => q2 z.2)]; exact h3
        · rw [wn, if_neg (fun z => q2 z.2)]
    · rw [if_pos (by rw [o_le (by omega) (by omega)]; omega)]
      refine ⟨g, rfl, ⟨hT, rfl, rfl⟩, ?_, ?_⟩
      · rw [rnn, if_neg (fun z => q z.1)]; exact h3
      · rw [wn, if_neg (fun z => q z.1)]
theorem nt149 {sh : List gb_Sh} {n t : Nat} {B : Nat → Int32} (hn : n ≤ 400) : ∀ f s g F, n ≤ s + f → mvTp g n B → g.1 77 16 = 1 → g.1 77 14 = Int32.ofNat t → t ≤ s → g.1 77 15 = Int32.ofNat s → s ≤ n → gb_T (f_X11_next_149 sh (F + f + 1) g) (fun o => mQ g o n B ∧ o.1 77 15 = Int32.ofNat (rnn n B 1 f s) ∧ o.2.1 77 17 = wh n B t f s (g.2.1 77 17)) := by
  intro f
  induction f with
  | zero =>
    intro s g F hf hT h4 h2 hts h3 hs
    rw [f_X11_next_149, if_pos h4, hT.1, h3, if_pos (by rw [o_le (by omega) (by omega)]; omega), show gb_N = 999999 + 1 from rfl, nt243_no (by rw [h4]; decide)]
    exact ⟨g, rfl, ⟨hT, rfl, rfl⟩, h3, rfl⟩
  | succ f ih =>
    intro s g F hf hT h4 h2 hts h3 hs
    rw [f_X11_next_149, if_pos h4, hT.1, h3]
    by_cases q : s < n
    · rw [if_neg (by rw [o_le (by omega) (by omega)]; omega), gb_ck_s (o_in (by omega) (by omega)), o_cl (by omega), hT.2 s q, ky_s, gb_bd_s]
      simp only []
      by_cases q2 : ky (B s) = 1
      · rw [if_pos q2, if_neg (show ¬ (1 : Int32) = 0 by decide), h3, h2, a_sub hts]
        have key : ∀ z : Int64, z = (if 10 ≤ s - t then -1 else g.2.1 77 17 * 32 + (B s).toInt64 - 96) → gb_T (f_X11_next_227 sh (fun w => f_X11_next_149 sh (F + f + 1) w) g z) (fun o => mQ g o n B ∧ o.1 77 15 = Int32.ofNat (rnn n B 1 (f + 1) s) ∧ o.2.1 77 17 = wh n B t (f + 1) s (g.2.1 77 17)) := by
          intro z hz
          unfold f_X11_next_227
          rw [gb_let_s, gb_let_s, pij, h3, o_succ]
          obtain ⟨o, e, a, b, c⟩ := ih (s + 1) (gb_pi (gb_pj g 77 17 z) 77 15 (Int32.ofNat (s + 1))) F (by omega) ⟨(pi_n (by omega)).trans hT.1, fun j hj => (pi_n (by omega)).trans (hT.2 j hj)⟩ ((pi_n (by omega)).trans h4) ((pi_n (by omega)).trans h2) (by omega) pi_e (by omega)
          refine ⟨o, e, ⟨a.1, a.2.1.trans (pi_n (by omega)), a.2.2.trans (pi_n (by omega))⟩, ?_, ?_⟩
          · rw [b, rnn, if_pos ⟨q, q2⟩]
          · rw [c, pjj, pj_e, wh, if_pos ⟨q, q2⟩, hz]
        by_cases q3 : 10 ≤ s - t
        · rw [if_pos (by rw [show (10 : Int32) = Int32.ofNat 10 from rfl, o_le (by omega) (by omega)]; exact q3)]
          exact key _ (by rw [if_pos q3])
        · rw [if_neg (by rw [show (10 : Int32) = Int32.ofNat 10 from rfl, o_le (by omega) (by omega)]; exact q3), gb_ck_s (o_in (by omega) (by omega)), o_cl (by omega), hT.2 s q]
          exact key _ (by rw [if_neg q3])
      · rw [if_neg q2, if_pos rfl, show gb_N = 999999 + 1 from rfl, nt243_no (by rw [h4]; decide)]
        refine ⟨g, rfl, ⟨hT, rfl, rfl⟩, ?_, ?_⟩
        · rw [rnn, if_neg (fun z => q2 z.2)]; exact h3
        · rw [wh, if_neg (fun z => q2 z.2)]
    · rw [if_pos (by rw [o_le (by omega) (by omega)]; omega), show gb_N = 999999 + 1 from rfl, nt243_no (by rw [h4]; decide)]
      refine ⟨g, rfl, ⟨hT, rfl, rfl⟩, ?_, ?_⟩
      · rw [rnn, if_neg (fun z => q z.1)]; exact h3
      · rw [wh, if_neg (fun z => q z.1)]
theorem nt149_no {sh : List gb_Sh} {g : gb_G} (h : ¬ g.1 77 16 = 1) : f_X11_next_149 sh gb_N g = f_X11_next_243 sh gb_N g := by
  rw [show gb_N = 999999 + 1 from rfl, f_X11_next_149, if_neg h]; rfl
theorem nt46 {sh : List gb_Sh} {n t : Nat} {B : Nat → Int32} {g : gb_G} (hn : n ≤ 400) (hT : mvTp g n B) (h2 : g.1 77 14 = Int32.ofNat t) (ht : t ≤ n) : gb_T (f_X11_next_46 sh g) (fun o => mS o n B t) := by
  unfold f_X11_next_46
  rw [gb_let_s, gb_let_s, h2]
  generalize hg1 : gb_pj (gb_pi g 77 15 (Int32.ofNat t)) 77 17 0 = g1
  have i1 : ∀ c k, ¬ (c = 77 ∧ k = 15) → g1.1 c k = g.1 c k := fun c k h => by rw [← hg1]; exact pi_n h
  have hT1 : mvTp g1 n B := ⟨(i1 _ _ (by omega)).trans hT.1, fun j hj => (i1 _ _ (by omega)).trans (hT.2 j hj)⟩
  have h21 : g1.1 77 14 = Int32.ofNat t := (i1 _ _ (by omega)).trans h2
  have h31 : g1.1 77 15 = Int32.ofNat t := by rw [← hg1]; exact pk.trans pi_e
  have h41 : g1.2.1 77 17 = 0 := by rw [← hg1]; exact pj_e
  rw [h21, hT1.1]
  by_cases q : t < n
  · rw [if_neg (fun z => by have := o_inj (by omega) (by omega) z; omega), gb_ck_s (o_in (by omega) (by omega)), o_cl (by omega), hT1.2 t q, ky_s, gb_bd_s]
    simp only []
    by_cases k1 : ky (B t) = 1
    · rw [if_pos k1, if_neg (show ¬ (1 : Int32) = 0 by decide)]
      unfold f_X11_next_114
      rw [gb_let_s, show (gb_pi g1 77 16 1).1 77 16 = 1 from pi_e, if_neg (by decide)]
      obtain ⟨o, e, a, b, c⟩ := nt149 (sh := sh) (t := t) hn 401 t (gb_pi g1 77 16 1) 999598 (by omega) ⟨(pi_n (by omega)).trans hT1.1, fun j hj => (pi_n (by omega)).trans (hT1.2 j hj)⟩ pi_e ((pi_n (by omega)).trans h21) (Nat.le_refl _) ((pi_n (by omega)).trans h31) ht
      refine ⟨o, e, a.1, ht, a.2.1.trans ((pi_n (by omega)).trans h21), b.trans ?_, (a.2.2.trans pi_e).trans ?_, c.trans ?_⟩
      · rw [stp, if_pos q, if_neg (by omega), rnn, if_pos ⟨q, k1⟩, k1]
      · rw [so, if_pos q, if_neg (by omega), k1]; rfl
      · rw [wo, if_pos q, if_neg (by omega), if_pos k1, pjj, h41]
    · rw [if_neg k1, if_pos rfl, h21, gb_ck_s (o_in (by omega) (by omega)), o_cl (by omega), hT1.2 t q, ky_d, gb_bd_s]
      simp only []
      by_cases k2 : ky (B t) = 2
      · rw [if_pos k2, if_neg (show ¬ (1 : Int32) = 0 by decide)]
        unfold f_X11_next_114
        rw [gb_let_s, show (gb_pi g1 77 16 2).1 77 16 = 2 from pi_e, if_neg (by decide), nt149_no (by rw [show (gb_pi g1 77 16 2).1 77 16 = 2 from pi_e]; decide)]
        obtain ⟨o, e, a, b, c⟩ := nt243 (sh := sh) hn 401 t (gb_pi g1 77 16 2) 999598 (by omega) ⟨(pi_n (by omega)).trans hT1.1, fun j hj => (pi_n (by omega)).trans (hT1.2 j hj)⟩ pi_e ((pi_n (by omega)).trans h31) ht
        refine ⟨o, e, a.1, ht, a.2.1.trans ((pi_n (by omega)).trans h21), b.trans ?_, (a.2.2.trans pi_e).trans ?_, c.trans ?_⟩
        · rw [stp, if_pos q, if_neg (by omega), rnn, if_pos ⟨q, k2⟩, k2]
        · rw [so, if_pos q, if_neg (by omega), k2]; rfl
        · rw [wo, if_pos q, if_neg (by omega), if_neg (by omega), pjj, h41]
      · have k0 : ky (B t) = 0 := by have := ky_2 (B t); omega
        rw [if_neg k2, if_pos rfl]
        unfold f_X11_next_114
        rw [gb_let_s, show (gb_pi g1 77 16 3).1 77 16 = 3 from pi_e, if_pos rfl, show (gb_pi g1 77 16 3).1 77 14 = Int32.ofNat t from (pi_n (by omega)).trans h21, gb_ck_s (o_in (by omega) (by omega)), o_cl (by omega), gb_let_s, gb_let_s, show (gb_pi g1 77 16 3).1 86 t = B t from (pi_n (by omega)).trans (hT1.2 t q), pij, show (gb_pi g1 77 16 3).1 77 15 = Int32.ofNat t from (pi_n (by omega)).trans h31, o_succ]
        have hz : (gb_pi (gb_pj (gb_pi g1 77 16 3) 77 17 (B t).toInt64) 77 15 (Int32.ofNat (t + 1))).1 77 16 = 3 := (pi_n (by omega)).trans (pk.trans pi_e)
        rw [nt149_no (by rw [hz]; decide), show gb_N = 999999 + 1 from rfl, nt243_no (by rw [hz]; decide)]
        refine ⟨_, rfl, ⟨(pi_n (by omega)).trans (pk.trans ((pi_n (by omega)).trans hT1.1)), fun j hj => (pi_n (by omega)).trans (pk.trans ((pi_n (by omega)).trans (hT1.2 j hj)))⟩, ht, (pi_n (by omega)).trans (pk.trans ((pi_n (by omega)).trans h21)), pi_e.trans ?_, hz.trans ?_, ?_⟩
        · rw [stp, if_pos q, if_pos k0]
        · rw [so, if_pos q, if_pos k0]; rfl
        · rw [wo, if_pos q, if_pos k0, pjj, pj_e]
  · have e : t = n := by omega
    subst e
    rw [if_pos rfl]
    unfold f_X11_next_114
    have hz : (gb_pi g1 77 16 0).1 77 16 = 0 := pi_e
    rw [gb_let_s, hz, if_neg (by decide), nt149_no (by rw [hz]; decide), show gb_N = 999999 + 1 from rfl, nt243_no (by rw [hz]; decide)]
    refine ⟨_, rfl, ⟨(pi_n (by omega)).trans hT1.1, fun j hj => (pi_n (by omega)).trans (hT1.2 j hj)⟩, ht, (pi_n (by omega)).trans h21, ((pi_n (by omega)).trans h31).trans ?_, hz.trans ?_, ?_⟩
    · rw [stp, if_neg q]
    · rw [so, if_neg q]; rfl
    · rw [wo, if_neg q, pjj, h41]
theorem nt8 {sh : List gb_Sh} {n : Nat} {B : Nat → Int32} (hn : n ≤ 400) : ∀ f s g F, n ≤ s + f → mvTp g n B → g.1 77 14 = Int32.ofNat s → s ≤ n → gb_T (f_X11_next_8 sh (F + f + 1) g) (fun o => mS o n B (skp n B f s)) := by
  intro f
  induction f with
  | zero =>
    intro s g F hf hT h2 hs
    rw [f_X11_next_8, hT.1, h2, if_pos (by rw [o_le (by omega) (by omega)]; omega)]
    exact nt46 hn hT h2 hs
  | succ f ih =>
    intro s g F hf hT h2 hs
    rw [f_X11_next_8, hT.1, h2]
    by_cases q : s < n
    · rw [if_neg (by rw [o_le (by omega) (by omega)]; omega), gb_ck_s (o_in (by omega) (by omega)), o_cl (by omega), hT.2 s q]
      by_cases q2 : B s = 32
      · rw [if_pos q2, gb_let_s, o_succ, skp, if_pos ⟨q, q2⟩]
        exact ih (s + 1) (gb_pi g 77 14 (Int32.ofNat (s + 1))) F (by omega) ⟨(pi_n (by omega)).trans hT.1, fun j hj => (pi_n (by omega)).trans (hT.2 j hj)⟩ pi_e (by omega)
      · rw [if_neg q2, skp, if_neg (fun z => q2 z.2)]
        exact nt46 hn hT h2 hs
    · rw [if_pos (by rw [o_le (by omega) (by omega)]; omega), skp, if_neg (fun z => q z.1)]
      exact nt46 hn hT h2 hs
/-- next() -/
theorem next_m {sh : List gb_Sh} {n t : Nat} {B : Nat → Int32} {g : gb_G} (hn : n ≤ 400) (h : mS g n B t) : gb_T (f_X11_next sh g) (fun o => mS o n B (tn n B t)) := by
  obtain ⟨hT, ht, h2, h3, h4⟩ := h
  have hb := stp_b (B := B) ht
  unfold f_X11_next
  rw [gb_let_s, h3]
  exact nt8 hn 400 (stp n B t) (gb_pi g 77 14 (Int32.ofNat (stp n B t))) 999599 (by omega) ⟨(pi_n (by omega)).trans hT.1, fun j hj => (pi_n (by omega)).trans (hT.2 j hj)⟩ pi_e hb.2.1
theorem beg_m {sh : List gb_Sh} {n : Nat} {B : Nat → Int32} {g : gb_G} (hn : n ≤ 400) (h : mvTp g n B) : gb_T (f_X11_begin sh g) (fun o => mS o n B (skp n B 400 0) ∧ o.1 77 19 = 0 ∧ o.1 77 18 = -1) := by
  unfold f_X11_begin
  rw [gb_let_s, gb_let_s, gb_let_s]
  generalize hg1 : gb_pi (gb_pi (gb_pi g 77 15 0) 77 19 0) 77 18 (-1) = g1
  have i1 : ∀ c k, ¬ (c = 77 ∧ (k = 15 ∨ k = 19 ∨ k = 18)) → g1.1 c k = g.1 c k := fun c k h => by rw [← hg1, pi_n (by omega), pi_n (by omega), pi_n (by omega)]
  have hT : mvTp (gb_pi g1 77 14 (Int32.ofNat 0)) n B := ⟨(pi_n (by omega)).trans ((i1 _ _ (by omega)).trans h.1), fun j hj => (pi_n (by omega)).trans ((i1 _ _ (by omega)).trans (h.2 j hj))⟩
  obtain ⟨o, e, p⟩ := nt8 (sh := sh) hn 400 0 (gb_pi g1 77 14 (Int32.ofNat 0)) 999599 (by omega) hT pi_e (by omega)
  have e2 : f_X11_next sh g1 = some o := by
    unfold f_X11_next
    rw [gb_let_s, show g1.1 77 15 = Int32.ofNat 0 by rw [← hg1, pi_n (by omega), pi_n (by omega)]; exact pi_e]
    exact e
  have F := w_X11_next e2
  rw [e2, gb_bd_s]
  refine ⟨o, rfl, p, ?_, ?_⟩
  · rw [(F 77 19 (by omega)).1, ← hg1, pi_n (by omega)]; exact pi_e
  · rw [(F 77 18 (by omega)).1, ← hg1]; exact pi_e
