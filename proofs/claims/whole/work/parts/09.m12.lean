-- X11_ask
noncomputable def f_X11_ask_236 (sh : List gb_Sh) (g : gb_G) (y3 : Int32) (y5 : Int32) (y6 : Int32) : Option (gb_G × Int32) := if y6 = (-1) then (some (g, y6)) else (if y3 = 0 then (some (g, y6)) else (some (g, y5)))
noncomputable def f_X11_ask_228 (sh : List gb_Sh) (K140 : gb_G → Int32 → Int32 → Int32 → Int32 → Int32 → Option (gb_G × Int32)) (g : gb_G) (y3 : Int32) (y4 : Int32) (y6 : Int32) (y7 : Int32) (z0 : Int32) : Option (gb_G × Int32) := K140 g y3 y4 z0 y6 (y7 + 1)
noncomputable def f_X11_ask_212 (sh : List gb_Sh) (K140 : gb_G → Int32 → Int32 → Int32 → Int32 → Int32 → Option (gb_G × Int32)) (g : gb_G) (y3 : Int32) (y4 : Int32) (y5 : Int32) (y7 : Int32) (y8 : Int32) (z0 : Int32) : Option (gb_G × Int32) := if y5 ≤ y8 then (f_X11_ask_228 sh K140 g y3 y4 z0 y7 y5) else (f_X11_ask_228 sh K140 g y3 y4 z0 y7 y8)
noncomputable def f_X11_ask_196 (sh : List gb_Sh) (K140 : gb_G → Int32 → Int32 → Int32 → Int32 → Int32 → Option (gb_G × Int32)) (g : gb_G) (y3 : Int32) (y4 : Int32) (y5 : Int32) (y6 : Int32) (y7 : Int32) (z0 : Int32) : Option (gb_G × Int32) := if y5 ≤ z0 then (f_X11_ask_212 sh K140 g y3 y4 y5 y7 z0 y6) else (f_X11_ask_212 sh K140 g y3 y4 y5 y7 z0 y7)
noncomputable def f_X11_ask_140 (sh : List gb_Sh) : Nat → gb_G → Int32 → Int32 → Int32 → Int32 → Int32 → Option (gb_G × Int32)
  | 0, _, _, _, _, _, _ => none
  | n + 1, g, y3, y4, y5, y6, y7 => if (g.1 79 0) ≤ y7 then (f_X11_ask_236 sh g y3 y5 y6) else (if y4 ≤ 0 then (f_X11_ask_236 sh g y3 y5 y6) else (gb_ck y7 8 (gb_ck y7 8 (if (g.1 100 y7.toNatClampNeg) ≤ (y4 - (g.1 100 y7.toNatClampNeg)) then (gb_ck y7 8 (f_X11_ask_196 sh (fun w w0 w1 w2 w3 w4 => f_X11_ask_140 sh n w w0 w1 w2 w3 w4) g y3 y4 y5 y6 y7 (y4 - (g.1 100 y7.toNatClampNeg)))) else (gb_ck y7 8 (f_X11_ask_196 sh (fun w w0 w1 w2 w3 w4 => f_X11_ask_140 sh n w w0 w1 w2 w3 w4) g y3 y4 y5 y6 y7 (g.1 100 y7.toNatClampNeg)))))))
noncomputable def f_X11_ask_123 (sh : List gb_Sh) (K55 : gb_G → Int32 → Int32 → Int32 → Int32 → Int32 → Option (gb_G × Int32)) (g : gb_G) (y1 : Int32) (y2 : Int32) (y3 : Int32) (y4 : Int32) (y5 : Int32) : Option (gb_G × Int32) := K55 g y1 y2 y3 y4 (y5 + 1)
noncomputable def f_X11_ask_115 (sh : List gb_Sh) (K85 : gb_G → Int32 → Int32 → Int32 → Int32 → Int32 → Int32 → Option (gb_G × Int32)) (g : gb_G) (y1 : Int32) (y2 : Int32) (y3 : Int32) (y4 : Int32) (y5 : Int32) (y6 : Int32) (z0 : Int32) (z1 : Int32) (z2 : Int32) : Option (gb_G × Int32) := gb_ck z2 8 (gb_let (gb_pi g 100 z2.toNatClampNeg (z1 + z0)) (fun g16 => K85 g16 y1 y2 y3 y4 y5 (y6 + 1)))
noncomputable def f_X11_ask_85 (sh : List gb_Sh) (K123 : gb_G → Int32 → Int32 → Int32 → Int32 → Int32 → Option (gb_G × Int32)) : Nat → gb_G → Int32 → Int32 → Int32 → Int32 → Int32 → Int32 → Option (gb_G × Int32)
  | 0, _, _, _, _, _, _, _ => none
  | n + 1, g, y1, y2, y3, y4, y5, y6 => if 8 ≤ y6 then (K123 g y1 y2 y3 y4 y5) else (gb_ck y6 8 (gb_bd (f_X11_is sh g y5 y6) (fun r13 => if r13.2 = 0 then (f_X11_ask_115 sh (fun w w0 w1 w2 w3 w4 w5 => f_X11_ask_85 sh K123 n w w0 w1 w2 w3 w4 w5) r13.1 y1 y2 y3 y4 y5 y6 0 (g.1 100 y6.toNatClampNeg) y6) else (f_X11_ask_115 sh (fun w w0 w1 w2 w3 w4 w5 => f_X11_ask_85 sh K123 n w w0 w1 w2 w3 w4 w5) r13.1 y1 y2 y3 y4 y5 y6 1 (g.1 100 y6.toNatClampNeg) y6))))
noncomputable def f_X11_ask_55 (sh : List gb_Sh) : Nat → gb_G → Int32 → Int32 → Int32 → Int32 → Int32 → Option (gb_G × Int32)
  | 0, _, _, _, _, _, _ => none
  | n + 1, g, y1, y2, y3, y4, y5 => if (1 <<< ((g.1 79 0) &&& 31)) ≤ y5 then (f_X11_ask_140 sh gb_N g y3 y4 100000000 (-1) 0) else (gb_bd (f_X11_isBought sh g y5 y1 y2) (fun r10 => if r10.2 = 0 then (f_X11_ask_123 sh (fun w w0 w1 w2 w3 w4 => f_X11_ask_55 sh n w w0 w1 w2 w3 w4) r10.1 y1 y2 y3 y4 y5) else (f_X11_ask_85 sh (fun w w0 w1 w2 w3 w4 => f_X11_ask_123 sh (fun w w0 w1 w2 w3 w4 => f_X11_ask_55 sh n w w0 w1 w2 w3 w4) w w0 w1 w2 w3 w4) gb_N r10.1 y1 y2 y3 (y4 + 1) y5 0)))
noncomputable def f_X11_ask_28 (sh : List gb_Sh) : Nat → gb_G → Int32 → Int32 → Int32 → Int32 → Option (gb_G × Int32)
  | 0, _, _, _, _, _ => none
  | n + 1, g, y1, y2, y3, y4 => if 8 ≤ y4 then (f_X11_ask_55 sh gb_N g y1 y2 y3 0 0) else (gb_ck y4 8 (gb_let (gb_pi g 100 y4.toNatClampNeg 0) (fun g18 => f_X11_ask_28 sh n g18 y1 y2 y3 (y4 + 1))))
noncomputable def f_X11_ask (sh : List gb_Sh) (g : gb_G) (x1 : Int32) (x2 : Int32) (x3 : Int32) : Option (gb_G × Int32) := gb_let (gb_pi g 77 0 0) (fun g1 => gb_bd (f_X11_areSpent sh g1 x1 x2) (fun r2 => if r2.2 = 0 then (some (r2.1, (-1))) else (gb_bd (f_X11_in sh r2.1 x3.toInt64 0 1) (fun r4 => if r4.2 = 0 then (some (r4.1, (-1))) else (f_X11_ask_28 sh gb_N r4.1 x1 x2 x3 0)))))
set_option maxRecDepth 100000 in
set_option maxHeartbeats 4000000 in
theorem t_X11_ask_236 {Γ : gb_X} {sh : List gb_Sh} {out : gb_G × Int32} (hS : gb_S sh) : ∀ (g : gb_G) (y3 : Int32) (y5 : Int32) (y6 : Int32), f_X11_ask_236 sh g y3 y5 y6 = some out → gb_J Γ M_X11_ask 7 (gb_Ri sh out) 0 0 sh g 236 [(3, .int y3), (5, .int y5), (6, .int y6)] [] := by
  intro g y3 y5 y6 h
  unfold f_X11_ask_236 at h
  refine gb_iload d_X11_ask_236 rfl ?_
  refine gb_iconst (-1) d_X11_ask_238 rfl ?_
  refine gb_icmp_eq 246 d_X11_ask_239 (by decide) (fun hc => ?_) (fun hc => ?_)
  · have h := gb_it hc h
    refine gb_iload d_X11_ask_246 rfl ?_
    refine gb_goto 253 d_X11_ask_248 (by decide) ?_
    cases h
    exact gb_iret d_X11_ask_253 rfl ⟨rfl, rfl, rfl⟩
  · have h := gb_if hc h
    refine gb_iload_n d_X11_ask_242 rfl ?_
    refine gb_if_ne 251 d_X11_ask_243 (by decide) (fun hc => ?_) (fun hc => ?_)
    · have h := gb_if hc h
      refine gb_iload d_X11_ask_251 rfl ?_
      cases h
      exact gb_iret d_X11_ask_253 rfl ⟨rfl, rfl, rfl⟩
    · have h := gb_it hc h
      refine gb_iload d_X11_ask_246 rfl ?_
      refine gb_goto 253 d_X11_ask_248 (by decide) ?_
      cases h
      exact gb_iret d_X11_ask_253 rfl ⟨rfl, rfl, rfl⟩
set_option maxRecDepth 100000 in
set_option maxHeartbeats 4000000 in
theorem t_X11_ask_228 {Γ : gb_X} {sh : List gb_Sh} {out : gb_G × Int32} (hS : gb_S sh) {K140 : gb_G → Int32 → Int32 → Int32 → Int32 → Int32 → Option (gb_G × Int32)} (hK140 : ∀ (g : gb_G) (y3 : Int32) (y4 : Int32) (y5 : Int32) (y6 : Int32) (y7 : Int32), K140 g y3 y4 y5 y6 y7 = some out → gb_J Γ M_X11_ask 7 (gb_Ri sh out) 0 0 sh g 140 [(0, .ref 77), (3, .int y3), (4, .int y4), (5, .int y5), (6, .int y6), (7, .int y7)] []) : ∀ (g : gb_G) (y3 : Int32) (y4 : Int32) (y6 : Int32) (y7 : Int32) (z0 : Int32), f_X11_ask_228 sh K140 g y3 y4 y6 y7 z0 = some out → gb_J Γ M_X11_ask 7 (gb_Ri sh out) 0 0 sh g 228 [(0, .ref 77), (3, .int y3), (4, .int y4), (6, .int y6), (7, .int y7)] [.int z0] := by
  intro g y3 y4 y6 y7 z0 h
  unfold f_X11_ask_228 at h
  refine gb_istore [(5, .int z0), (0, .ref 77), (3, .int y3), (4, .int y4), (6, .int y6), (7, .int y7)] d_X11_ask_228 (Nat.le_of_ble_eq_true rfl) rfl ?_
  refine gb_iinc (y7 + 1) [(7, .int (y7 + 1)), (5, .int z0), (0, .ref 77), (3, .int y3), (4, .int y4), (6, .int y6)] d_X11_ask_230 (Nat.le_of_ble_eq_true rfl) rfl rfl rfl ?_
  refine gb_goto 140 d_X11_ask_233 (by decide) ?_
  refine gb_pick (lv' := [(0, .ref 77), (3, .int y3), (4, .int y4), (5, .int z0), (6, .int y6), (7, .int (y7 + 1))]) [2, 3, 4, 1, 5, 0] rfl ?_
  exact hK140 _ y3 y4 z0 y6 (y7 + 1) h
set_option maxRecDepth 100000 in
set_option maxHeartbeats 4000000 in
theorem t_X11_ask_212 {Γ : gb_X} {sh : List gb_Sh} {out : gb_G × Int32} (hS : gb_S sh) {K140 : gb_G → Int32 → Int32 → Int32 → Int32 → Int32 → Option (gb_G × Int32)} (hK140 : ∀ (g : gb_G) (y3 : Int32) (y4 : Int32) (y5 : Int32) (y6 : Int32) (y7 : Int32), K140 g y3 y4 y5 y6 y7 = some out → gb_J Γ M_X11_ask 7 (gb_Ri sh out) 0 0 sh g 140 [(0, .ref 77), (3, .int y3), (4, .int y4), (5, .int y5), (6, .int y6), (7, .int y7)] []) : ∀ (g : gb_G) (y3 : Int32) (y4 : Int32) (y5 : Int32) (y7 : Int32) (y8 : Int32) (z0 : Int32), f_X11_ask_212 sh K140 g y3 y4 y5 y7 y8 z0 = some out → gb_J Γ M_X11_ask 7 (gb_Ri sh out) 0 0 sh g 212 [(0, .ref 77), (3, .int y3), (4, .int y4), (5, .int y5), (7, .int y7), (8, .int y8)] [.int z0] := by
  intro g y3 y4 y5 y7 y8 z0 h
  unfold f_X11_ask_212 at h
  refine gb_istore [(6, .int z0), (0, .ref 77), (3, .int y3), (4, .int y4), (5, .int y5), (7, .int y7), (8, .int y8)] d_X11_ask_212 (Nat.le_of_ble_eq_true rfl) rfl ?_
  refine gb_iload d_X11_ask_214 rfl ?_
  refine gb_iload d_X11_ask_216 rfl ?_
  refine gb_icmp_ge 226 d_X11_ask_218 (by decide) (fun hc => ?_) (fun hc => ?_)
  · have h := gb_it hc h
    refine gb_iload d_X11_ask_226 rfl ?_
    refine gb_pick (lv' := [(0, .ref 77), (3, .int y3), (4, .int y4), (6, .int z0), (7, .int y7)]) [1, 2, 3, 0, 5] rfl ?_
    exact t_X11_ask_228 hS hK140 _ y3 y4 z0 y7 y5 h
  · have h := gb_if hc h
    refine gb_iload d_X11_ask_221 rfl ?_
    refine gb_goto 228 d_X11_ask_223 (by decide) ?_
    refine gb_pick (lv' := [(0, .ref 77), (3, .int y3), (4, .int y4), (6, .int z0), (7, .int y7)]) [1, 2, 3, 0, 5] rfl ?_
    exact t_X11_ask_228 hS hK140 _ y3 y4 z0 y7 y8 h
set_option maxRecDepth 100000 in
set_option maxHeartbeats 4000000 in
theorem t_X11_ask_196 {Γ : gb_X} {sh : List gb_Sh} {out : gb_G × Int32} (hS : gb_S sh) {K140 : gb_G → Int32 → Int32 → Int32 → Int32 → Int32 → Option (gb_G × Int32)} (hK140 : ∀ (g : gb_G) (y3 : Int32) (y4 : Int32) (y5 : Int32) (y6 : Int32) (y7 : Int32), K140 g y3 y4 y5 y6 y7 = some out → gb_J Γ M_X11_ask 7 (gb_Ri sh out) 0 0 sh g 140 [(0, .ref 77), (3, .int y3), (4, .int y4), (5, .int y5), (6, .int y6), (7, .int y7)] []) : ∀ (g : gb_G) (y3 : Int32) (y4 : Int32) (y5 : Int32) (y6 : Int32) (y7 : Int32) (z0 : Int32), f_X11_ask_196 sh K140 g y3 y4 y5 y6 y7 z0 = some out → gb_J Γ M_X11_ask 7 (gb_Ri sh out) 0 0 sh g 196 [(0, .ref 77), (3, .int y3), (4, .int y4), (5, .int y5), (6, .int y6), (7, .int y7)] [.int z0] := by
  intro g y3 y4 y5 y6 y7 z0 h
  unfold f_X11_ask_196 at h
  refine gb_istore [(8, .int z0), (0, .ref 77), (3, .int y3), (4, .int y4), (5, .int y5), (6, .int y6), (7, .int y7)] d_X11_ask_196 (Nat.le_of_ble_eq_true rfl) rfl ?_
  refine gb_iload d_X11_ask_198 rfl ?_
  refine gb_iload d_X11_ask_200 rfl ?_
  refine gb_icmp_ge 210 d_X11_ask_202 (by decide) (fun hc => ?_) (fun hc => ?_)
  · have h := gb_it hc h
    refine gb_iload d_X11_ask_210 rfl ?_
    refine gb_pick (lv' := [(0, .ref 77), (3, .int y3), (4, .int y4), (5, .int y5), (7, .int y7), (8, .int z0)]) [1, 2, 3, 4, 6, 0] rfl ?_
    exact t_X11_ask_212 hS hK140 _ y3 y4 y5 y7 z0 y6 h
  · have h := gb_if hc h
    refine gb_iload d_X11_ask_205 rfl ?_
    refine gb_goto 212 d_X11_ask_207 (by decide) ?_
    refine gb_pick (lv' := [(0, .ref 77), (3, .int y3), (4, .int y4), (5, .int y5), (7, .int y7), (8, .int z0)]) [1, 2, 3, 4, 6, 0] rfl ?_
    exact t_X11_ask_212 hS hK140 _ y3 y4 y5 y7 z0 y7 h
set_option maxRecDepth 100000 in
set_option maxHeartbeats 4000000 in
theorem t_X11_ask_140 {Γ : gb_X} {sh : List gb_Sh} {out : gb_G × Int32} (hS : gb_S sh) : ∀ (n : Nat) (g : gb_G) (y3 : Int32) (y4 : Int32) (y5 : Int32) (y6 : Int32) (y7 : Int32), f_X11_ask_140 sh n g y3 y4 y5 y6 y7 = some out → gb_J Γ M_X11_ask 7 (gb_Ri sh out) 0 0 sh g 140 [(0, .ref 77), (3, .int y3), (4, .int y4), (5, .int y5), (6, .int y6), (7, .int y7)] [] := by
  intro n
  induction n with
  | zero => intro g y3 y4 y5 y6 y7 h; cases h
  | succ n ih =>
    intro g y3 y4 y5 y6 y7 h
    rw [f_X11_ask_140] at h
    refine gb_iload d_X11_ask_140 rfl ?_
    refine gb_aload_n d_X11_ask_142 rfl ?_
    refine gb_getr (r := 79) f_X11_13 (hS 77 _ rfl) rfl d_X11_ask_143 ?_
    refine gb_iconst 0 d_X11_ask_146 rfl ?_
    refine gb_iald_ 0 rfl (hS 79 _ rfl) (by unfold vp_in; decide) d_X11_ask_147 ?_
    refine gb_icmp_ge 236 d_X11_ask_148 (by decide) (fun hc => ?_) (fun hc => ?_)
    · have h := gb_it hc h
      refine gb_pick (lv' := [(3, .int y3), (5, .int y5), (6, .int y6)]) [1, 3, 4] rfl ?_
      exact t_X11_ask_236 hS  _ y3 y5 y6 h
    · have h := gb_if hc h
      refine gb_iload d_X11_ask_151 rfl ?_
      refine gb_if_le 236 d_X11_ask_153 (by decide) (fun hc => ?_) (fun hc => ?_)
      · have h := gb_it hc h
        refine gb_pick (lv' := [(3, .int y3), (5, .int y5), (6, .int y6)]) [1, 3, 4] rfl ?_
        exact t_X11_ask_236 hS  _ y3 y5 y6 h
      · have h := gb_if hc h
        refine gb_aload_n d_X11_ask_156 rfl ?_
        refine gb_getr (r := 100) f_X11_116 (hS 77 _ rfl) rfl d_X11_ask_157 ?_
        refine gb_iload d_X11_ask_160 rfl ?_
        obtain ⟨hi6, h⟩ := gb_ck_e h
        refine gb_iald_ y7.toNatClampNeg rfl (hS 100 _ rfl) hi6 d_X11_ask_162 ?_
        refine gb_iload d_X11_ask_163 rfl ?_
        refine gb_aload_n d_X11_ask_165 rfl ?_
        refine gb_getr (r := 100) f_X11_116 (hS 77 _ rfl) rfl d_X11_ask_166 ?_
        refine gb_iload d_X11_ask_169 rfl ?_
        obtain ⟨hi7, h⟩ := gb_ck_e h
        refine gb_iald_ y7.toNatClampNeg rfl (hS 100 _ rfl) hi7 d_X11_ask_171 ?_
        refine gb_isub d_X11_ask_172 ?_
        refine gb_icmp_le 186 d_X11_ask_173 (by decide) (fun hc => ?_) (fun hc => ?_)
        · have h := gb_it hc h
          refine gb_iload d_X11_ask_186 rfl ?_
          refine gb_aload_n d_X11_ask_188 rfl ?_
          refine gb_getr (r := 100) f_X11_116 (hS 77 _ rfl) rfl d_X11_ask_189 ?_
          refine gb_iload d_X11_ask_192 rfl ?_
          obtain ⟨hi8, h⟩ := gb_ck_e h
          refine gb_iald_ y7.toNatClampNeg rfl (hS 100 _ rfl) hi8 d_X11_ask_194 ?_
          refine gb_isub d_X11_ask_195 ?_
          exact t_X11_ask_196 hS (fun w w0 w1 w2 w3 w4 hw => ih w w0 w1 w2 w3 w4 hw) _ y3 y4 y5 y6 y7 (y4 - (g.1 100 y7.toNatClampNeg)) h
        · have h := gb_if hc h
          refine gb_aload_n d_X11_ask_176 rfl ?_
          refine gb_getr (r := 100) f_X11_116 (hS 77 _ rfl) rfl d_X11_ask_177 ?_
          refine gb_iload d_X11_ask_180 rfl ?_
          obtain ⟨hi9, h⟩ := gb_ck_e h
          refine gb_iald_ y7.toNatClampNeg rfl (hS 100 _ rfl) hi9 d_X11_ask_182 ?_
          refine gb_goto 196 d_X11_ask_183 (by decide) ?_
          exact t_X11_ask_196 hS (fun w w0 w1 w2 w3 w4 hw => ih w w0 w1 w2 w3 w4 hw) _ y3 y4 y5 y6 y7 (g.1 100 y7.toNatClampNeg) h
set_option maxRecDepth 100000 in
set_option maxHeartbeats 4000000 in
theorem t_X11_ask_123 {Γ : gb_X} {sh : List gb_Sh} {out : gb_G × Int32} (hS : gb_S sh) {K55 : gb_G → Int32 → Int32 → Int32 → Int32 → Int32 → Option (gb_G × Int32)} (hK55 : ∀ (g : gb_G) (y1 : Int32) (y2 : Int32) (y3 : Int32) (y4 : Int32) (y5 : Int32), K55 g y1 y2 y3 y4 y5 = some out → gb_J Γ M_X11_ask 7 (gb_Ri sh out) 0 0 sh g 55 [(0, .ref 77), (1, .int y1), (2, .int y2), (3, .int y3), (4, .int y4), (5, .int y5)] []) : ∀ (g : gb_G) (y1 : Int32) (y2 : Int32) (y3 : Int32) (y4 : Int32) (y5 : Int32), f_X11_ask_123 sh K55 g y1 y2 y3 y4 y5 = some out → gb_J Γ M_X11_ask 7 (gb_Ri sh out) 0 0 sh g 123 [(0, .ref 77), (1, .int y1), (2, .int y2), (3, .int y3), (4, .int y4), (5, .int y5)] [] := by
  intro g y1 y2 y3 y4 y5 h
  unfold f_X11_ask_123 at h
  refine gb_iinc (y5 + 1) [(5, .int (y5 + 1)), (0, .ref 77), (1, .int y1), (2, .int y2), (3, .int y3), (4, .int y4)] d_X11_ask_123 (Nat.le_of_ble_eq_true rfl) rfl rfl rfl ?_
  refine gb_goto 55 d_X11_ask_126 (by decide) ?_
  refine gb_pick (lv' := [(0, .ref 77), (1, .int y1), (2, .int y2), (3, .int y3), (4, .int y4), (5, .int (y5 + 1))]) [1, 2, 3, 4, 5, 0] rfl ?_
  exact hK55 _ y1 y2 y3 y4 (y5 + 1) h
set_option maxRecDepth 100000 in
set_option maxHeartbeats 4000000 in
theorem t_X11_ask_115 {Γ : gb_X} {sh : List gb_Sh} {out : gb_G × Int32} (hS : gb_S sh) {K85 : gb_G → Int32 → Int32 → Int32 → Int32 → Int32 → Int32 → Option (gb_G × Int32)} (hK85 : ∀ (g : gb_G) (y1 : Int32) (y2 : Int32) (y3 : Int32) (y4 : Int32) (y5 : Int32) (y6 : Int32), K85 g y1 y2 y3 y4 y5 y6 = some out → gb_J Γ M_X11_ask 7 (gb_Ri sh out) 0 0 sh g 85 [(0, .ref 77), (1, .int y1), (2, .int y2), (3, .int y3), (4, .int y4), (5, .int y5), (6, .int y6)] []) : ∀ (g : gb_G) (y1 : Int32) (y2 : Int32) (y3 : Int32) (y4 : Int32) (y5 : Int32) (y6 : Int32) (z0 : Int32) (z1 : Int32) (z2 : Int32), f_X11_ask_115 sh K85 g y1 y2 y3 y4 y5 y6 z0 z1 z2 = some out → gb_J Γ M_X11_ask 7 (gb_Ri sh out) 0 0 sh g 115 [(0, .ref 77), (1, .int y1), (2, .int y2), (3, .int y3), (4, .int y4), (5, .int y5), (6, .int y6)] [.int z0, .int z1, .int z2, .ref 100] := by
  intro g y1 y2 y3 y4 y5 y6 z0 z1 z2 h
  unfold f_X11_ask_115 at h
  refine gb_iadd d_X11_ask_115 ?_
  obtain ⟨hi15, h⟩ := gb_ck_e h
  refine gb_iast_ z2.toNatClampNeg rfl (hS 100 _ rfl) hi15 d_X11_ask_116 ?_
  have h := gb_let_e h
  generalize gb_pi g 100 z2.toNatClampNeg (z1 + z0) = g16 at h ⊢
  refine gb_iinc (y6 + 1) [(6, .int (y6 + 1)), (0, .ref 77), (1, .int y1), (2, .int y2), (3, .int y3), (4, .int y4), (5, .int y5)] d_X11_ask_117 (Nat.le_of_ble_eq_true rfl) rfl rfl rfl ?_
  refine gb_goto 85 d_X11_ask_120 (by decide) ?_
  refine gb_pick (lv' := [(0, .ref 77), (1, .int y1), (2, .int y2), (3, .int y3), (4, .int y4), (5, .int y5), (6, .int (y6 + 1))]) [1, 2, 3, 4, 5, 6, 0] rfl ?_
  exact hK85 _ y1 y2 y3 y4 y5 (y6 + 1) h
set_option maxRecDepth 100000 in
set_option maxHeartbeats 4000000 in
theorem t_X11_ask_85 {Γ : gb_X} {sh : List gb_Sh} {out : gb_G × Int32} (hS : gb_S sh) {K123 : gb_G → Int32 → Int32 → Int32 → Int32 → Int32 → Option (gb_G × Int32)} (hK123 : ∀ (g : gb_G) (y1 : Int32) (y2 : Int32) (y3 : Int32) (y4 : Int32) (y5 : Int32), K123 g y1 y2 y3 y4 y5 = some out → gb_J Γ M_X11_ask 7 (gb_Ri sh out) 0 0 sh g 123 [(0, .ref 77), (1, .int y1), (2, .int y2), (3, .int y3), (4, .int y4), (5, .int y5)] []) : ∀ (n : Nat) (g : gb_G) (y1 : Int32) (y2 : Int32) (y3 : Int32) (y4 : Int32) (y5 : Int32) (y6 : Int32), f_X11_ask_85 sh K123 n g y1 y2 y3 y4 y5 y6 = some out → gb_J Γ M_X11_ask 7 (gb_Ri sh out) 0 0 sh g 85 [(0, .ref 77), (1, .int y1), (2, .int y2), (3, .int y3), (4, .int y4), (5, .int y5), (6, .int y6)] [] := by
  intro n
  induction n with
  | zero => intro g y1 y2 y3 y4 y5 y6 h; cases h
  | succ n ih =>
    intro g y1 y2 y3 y4 y5 y6 h
    rw [f_X11_ask_85] at h
    refine gb_iload d_X11_ask_85 rfl ?_
    refine gb_bipush 8 d_X11_ask_87 rfl ?_
    refine gb_icmp_ge 123 d_X11_ask_89 (by decide) (fun hc => ?_) (fun hc => ?_)
    · have h := gb_it hc h
      refine gb_pick (lv' := [(0, .ref 77), (1, .int y1), (2, .int y2), (3, .int y3), (4, .int y4), (5, .int y5)]) [0, 1, 2, 3, 4, 5] rfl ?_
      exact hK123 _ y1 y2 y3 y4 y5 h
    · have h := gb_if hc h
      refine gb_aload_n d_X11_ask_92 rfl ?_
      refine gb_getr (r := 100) f_X11_116 (hS 77 _ rfl) rfl d_X11_ask_93 ?_
      refine gb_iload d_X11_ask_96 rfl ?_
      refine gb_dup2 d_X11_ask_98 rfl rfl ?_
      obtain ⟨hi12, h⟩ := gb_ck_e h
      refine gb_iald_ y6.toNatClampNeg rfl (hS 100 _ rfl) hi12 d_X11_ask_99 ?_
      refine gb_iload d_X11_ask_100 rfl ?_
      refine gb_iload d_X11_ask_102 rfl ?_
      obtain ⟨r13, e14, h⟩ := gb_bd_e h
      refine gb_cSi (As := [.int y5, .int y6]) (rest := [.int (g.1 100 y6.toNatClampNeg), .int y6, .ref 100]) m_X11_469 (t_X11_is (Γ := Γ) hS e14) (Nat.le_of_ble_eq_true rfl) rfl rfl (Nat.le_of_ble_eq_true rfl) d_X11_ask_104 ?_
      refine gb_if_eq 114 d_X11_ask_107 (by decide) (fun hc => ?_) (fun hc => ?_)
      · have h := gb_it hc h
        refine gb_iconst 0 d_X11_ask_114 rfl ?_
        exact t_X11_ask_115 hS (fun w w0 w1 w2 w3 w4 w5 hw => ih w w0 w1 w2 w3 w4 w5 hw) _ y1 y2 y3 y4 y5 y6 0 (g.1 100 y6.toNatClampNeg) y6 h
      · have h := gb_if hc h
        refine gb_iconst 1 d_X11_ask_110 rfl ?_
        refine gb_goto 115 d_X11_ask_111 (by decide) ?_
        exact t_X11_ask_115 hS (fun w w0 w1 w2 w3 w4 w5 hw => ih w w0 w1 w2 w3 w4 w5 hw) _ y1 y2 y3 y4 y5 y6 1 (g.1 100 y6.toNatClampNeg) y6 h
set_option maxRecDepth 100000 in
set_option maxHeartbeats 4000000 in
theorem t_X11_ask_55 {Γ : gb_X} {sh : List gb_Sh} {out : gb_G × Int32} (hS : gb_S sh) : ∀ (n : Nat) (g : gb_G) (y1 : Int32) (y2 : Int32) (y3 : Int32) (y4 : Int32) (y5 : Int32), f_X11_ask_55 sh n g y1 y2 y3 y4 y5 = some out → gb_J Γ M_X11_ask 7 (gb_Ri sh out) 0 0 sh g 55 [(0, .ref 77), (1, .int y1), (2, .int y2), (3, .int y3), (4, .int y4), (5, .int y5)] [] := by
  intro n
  induction n with
  | zero => intro g y1 y2 y3 y4 y5 h; cases h
  | succ n ih =>
    intro g y1 y2 y3 y4 y5 h
    rw [f_X11_ask_55] at h
    refine gb_iload d_X11_ask_55 rfl ?_
    refine gb_iconst 1 d_X11_ask_57 rfl ?_
    refine gb_aload_n d_X11_ask_58 rfl ?_
    refine gb_getr (r := 79) f_X11_13 (hS 77 _ rfl) rfl d_X11_ask_59 ?_
    refine gb_iconst 0 d_X11_ask_62 rfl ?_
    refine gb_iald_ 0 rfl (hS 79 _ rfl) (by unfold vp_in; decide) d_X11_ask_63 ?_
    refine gb_ishl d_X11_ask_64 ?_
    refine gb_icmp_ge 129 d_X11_ask_65 (by decide) (fun hc => ?_) (fun hc => ?_)
    · have h := gb_it hc h
      refine gb_ldcw 100000000 k_X11_461 d_X11_ask_129 ?_
      refine gb_istore [(5, .int 100000000), (0, .ref 77), (1, .int y1), (2, .int y2), (3, .int y3), (4, .int y4)] d_X11_ask_132 (Nat.le_of_ble_eq_true rfl) rfl ?_
      refine gb_iconst (-1) d_X11_ask_134 rfl ?_
      refine gb_istore [(6, .int (-1)), (5, .int 100000000), (0, .ref 77), (1, .int y1), (2, .int y2), (3, .int y3), (4, .int y4)] d_X11_ask_135 (Nat.le_of_ble_eq_true rfl) rfl ?_
      refine gb_iconst 0 d_X11_ask_137 rfl ?_
      refine gb_istore [(7, .int 0), (6, .int (-1)), (5, .int 100000000), (0, .ref 77), (1, .int y1), (2, .int y2), (3, .int y3), (4, .int y4)] d_X11_ask_138 (Nat.le_of_ble_eq_true rfl) rfl ?_
      refine gb_pick (lv' := [(0, .ref 77), (3, .int y3), (4, .int y4), (5, .int 100000000), (6, .int (-1)), (7, .int 0)]) [3, 6, 7, 2, 1, 0] rfl ?_
      exact t_X11_ask_140 hS  gb_N _ y3 y4 100000000 (-1) 0 h
    · have h := gb_if hc h
      refine gb_aload_n d_X11_ask_68 rfl ?_
      refine gb_iload d_X11_ask_69 rfl ?_
      refine gb_iload_n d_X11_ask_71 rfl ?_
      refine gb_iload_n d_X11_ask_72 rfl ?_
      obtain ⟨r10, e11, h⟩ := gb_bd_e h
      refine gb_cVi (As := [.int y5, .int y1, .int y2]) (rest := []) m_X11_488 (t_X11_isBought (Γ := Γ) hS e11) (hS 77 _ rfl) rfl (Nat.le_of_ble_eq_true rfl) rfl rfl (Nat.le_of_ble_eq_true rfl) d_X11_ask_73 ?_
      refine gb_if_eq 123 d_X11_ask_76 (by decide) (fun hc => ?_) (fun hc => ?_)
      · have h := gb_it hc h
        exact t_X11_ask_123 hS (fun w w0 w1 w2 w3 w4 hw => ih w w0 w1 w2 w3 w4 hw) _ y1 y2 y3 y4 y5 h
      · have h := gb_if hc h
        refine gb_iinc (y4 + 1) [(4, .int (y4 + 1)), (0, .ref 77), (1, .int y1), (2, .int y2), (3, .int y3), (5, .int y5)] d_X11_ask_79 (Nat.le_of_ble_eq_true rfl) rfl rfl rfl ?_
        refine gb_iconst 0 d_X11_ask_82 rfl ?_
        refine gb_istore [(6, .int 0), (4, .int (y4 + 1)), (0, .ref 77), (1, .int y1), (2, .int y2), (3, .int y3), (5, .int y5)] d_X11_ask_83 (Nat.le_of_ble_eq_true rfl) rfl ?_
        refine gb_pick (lv' := [(0, .ref 77), (1, .int y1), (2, .int y2), (3, .int y3), (4, .int (y4 + 1)), (5, .int y5), (6, .int 0)]) [2, 3, 4, 5, 1, 6, 0] rfl ?_
        exact t_X11_ask_85 hS (fun w w0 w1 w2 w3 w4 hw => t_X11_ask_123 hS (fun w w0 w1 w2 w3 w4 hw => ih w w0 w1 w2 w3 w4 hw) w w0 w1 w2 w3 w4 hw) gb_N _ y1 y2 y3 (y4 + 1) y5 0 h
set_option maxRecDepth 100000 in
set_option maxHeartbeats 4000000 in
theorem t_X11_ask_28 {Γ : gb_X} {sh : List gb_Sh} {out : gb_G × Int32} (hS : gb_S sh) : ∀ (n : Nat) (g : gb_G) (y1 : Int32) (y2 : Int32) (y3 : Int32) (y4 : Int32), f_X11_ask_28 sh n g y1 y2 y3 y4 = some out → gb_J Γ M_X11_ask 7 (gb_Ri sh out) 0 0 sh g 28 [(0, .ref 77), (1, .int y1), (2, .int y2), (3, .int y3), (4, .int y4)] [] := by
  intro n
  induction n with
  | zero => intro g y1 y2 y3 y4 h; cases h
  | succ n ih =>
    intro g y1 y2 y3 y4 h
    rw [f_X11_ask_28] at h
    refine gb_iload d_X11_ask_28 rfl ?_
    refine gb_bipush 8 d_X11_ask_30 rfl ?_
    refine gb_icmp_ge 49 d_X11_ask_32 (by decide) (fun hc => ?_) (fun hc => ?_)
    · have h := gb_it hc h
      refine gb_iconst 0 d_X11_ask_49 rfl ?_
      refine gb_istore [(4, .int 0), (0, .ref 77), (1, .int y1), (2, .int y2), (3, .int y3)] d_X11_ask_50 (Nat.le_of_ble_eq_true rfl) rfl ?_
      refine gb_iconst 0 d_X11_ask_52 rfl ?_
      refine gb_istore [(5, .int 0), (4, .int 0), (0, .ref 77), (1, .int y1), (2, .int y2), (3, .int y3)] d_X11_ask_53 (Nat.le_of_ble_eq_true rfl) rfl ?_
      refine gb_pick (lv' := [(0, .ref 77), (1, .int y1), (2, .int y2), (3, .int y3), (4, .int 0), (5, .int 0)]) [2, 3, 4, 5, 1, 0] rfl ?_
      exact t_X11_ask_55 hS  gb_N _ y1 y2 y3 0 0 h
    · have h := gb_if hc h
      refine gb_aload_n d_X11_ask_35 rfl ?_
      refine gb_getr (r := 100) f_X11_116 (hS 77 _ rfl) rfl d_X11_ask_36 ?_
      refine gb_iload d_X11_ask_39 rfl ?_
      refine gb_iconst 0 d_X11_ask_41 rfl ?_
      obtain ⟨hi17, h⟩ := gb_ck_e h
      refine gb_iast_ y4.toNatClampNeg rfl (hS 100 _ rfl) hi17 d_X11_ask_42 ?_
      have h := gb_let_e h
      generalize gb_pi g 100 y4.toNatClampNeg 0 = g18 at h ⊢
      refine gb_iinc (y4 + 1) [(4, .int (y4 + 1)), (0, .ref 77), (1, .int y1), (2, .int y2), (3, .int y3)] d_X11_ask_43 (Nat.le_of_ble_eq_true rfl) rfl rfl rfl ?_
      refine gb_goto 28 d_X11_ask_46 (by decide) ?_
      refine gb_pick (lv' := [(0, .ref 77), (1, .int y1), (2, .int y2), (3, .int y3), (4, .int (y4 + 1))]) [1, 2, 3, 4, 0] rfl ?_
      exact ih _ y1 y2 y3 (y4 + 1) h
set_option maxRecDepth 100000 in
set_option maxHeartbeats 4000000 in
theorem t_X11_ask {Γ : gb_X} {sh : List gb_Sh} {x1 : Int32} {x2 : Int32} {x3 : Int32} {out : gb_G × Int32} (hS : gb_S sh) {g : gb_G} (h : f_X11_ask sh g x1 x2 x3 = some out) : gb_C Γ M_X11_ask 7 0 0 sh g [.ref 77, .int x1, .int x2, .int x3] (gb_Ri sh out) := by
  refine gb_C.of rfl (Nat.le_of_ble_eq_true rfl) ?_
  refine gb_pick (lv' := [(0, .ref 77), (1, .int x1), (2, .int x2), (3, .int x3)]) [0, 1, 2, 3] rfl ?_
  unfold f_X11_ask at h
  refine gb_aload_n d_X11_ask_0 rfl ?_
  refine gb_iconst 0 d_X11_ask_1 rfl ?_
  refine gb_puti f_X11_145 (fun h => nomatch h) (hS 77 _ rfl) rfl rfl rfl d_X11_ask_2 ?_
  have h := gb_let_e h
  generalize gb_pi g 77 0 0 = g1 at h ⊢
  refine gb_iload_n d_X11_ask_5 rfl ?_
  refine gb_iload_n d_X11_ask_6 rfl ?_
  obtain ⟨r2, e3, h⟩ := gb_bd_e h
  refine gb_cSi (As := [.int x1, .int x2]) (rest := []) m_X11_485 (t_X11_areSpent (Γ := Γ) hS e3) (Nat.le_of_ble_eq_true rfl) rfl rfl (Nat.le_of_ble_eq_true rfl) d_X11_ask_7 ?_
  refine gb_if_eq 23 d_X11_ask_10 (by decide) (fun hc => ?_) (fun hc => ?_)
  · have h := gb_it hc h
    refine gb_iconst (-1) d_X11_ask_23 rfl ?_
    cases h
    exact gb_iret d_X11_ask_24 rfl ⟨rfl, rfl, rfl⟩
  · have h := gb_if hc h
    refine gb_iload_n d_X11_ask_13 rfl ?_
    refine gb_i2l d_X11_ask_14 ?_
    refine gb_lconst 0 d_X11_ask_15 rfl ?_
    refine gb_lconst 1 d_X11_ask_16 rfl ?_
    obtain ⟨r4, e5, h⟩ := gb_bd_e h
    refine gb_cSi (As := [.long x3.toInt64, .long 0, .long 1]) (rest := []) m_X11_165 (t_X11_in (Γ := Γ) hS e5) (Nat.le_of_ble_eq_true rfl) rfl rfl (Nat.le_of_ble_eq_true rfl) d_X11_ask_17 ?_
    refine gb_if_ne 25 d_X11_ask_20 (by decide) (fun hc => ?_) (fun hc => ?_)
    · have h := gb_if hc h
      refine gb_iconst 0 d_X11_ask_25 rfl ?_
      refine gb_istore [(4, .int 0), (0, .ref 77), (1, .int x1), (2, .int x2), (3, .int x3)] d_X11_ask_26 (Nat.le_of_ble_eq_true rfl) rfl ?_
      refine gb_pick (lv' := [(0, .ref 77), (1, .int x1), (2, .int x2), (3, .int x3), (4, .int 0)]) [1, 2, 3, 4, 0] rfl ?_
      exact t_X11_ask_28 hS  gb_N _ x1 x2 x3 0 h
    · have h := gb_it hc h
      refine gb_iconst (-1) d_X11_ask_23 rfl ?_
      cases h
      exact gb_iret d_X11_ask_24 rfl ⟨rfl, rfl, rfl⟩
-- X11_fair
noncomputable def f_X11_fair_130 (sh : List gb_Sh) (K35 : gb_G → Int32 → Int32 → Int32 → Int32 → Int32 → Option (gb_G × Int32)) (g : gb_G) (y1 : Int32) (y2 : Int32) (y4 : Int32) (y5 : Int32) (z0 : Int32) : Option (gb_G × Int32) := K35 g y1 y2 z0 y4 (y5 + 1)
noncomputable def f_X11_fair_116 (sh : List gb_Sh) (K35 : gb_G → Int32 → Int32 → Int32 → Int32 → Int32 → Option (gb_G × Int32)) (g : gb_G) (y1 : Int32) (y2 : Int32) (y3 : Int32) (y5 : Int32) (y6 : Int32) (z0 : Int32) : Option (gb_G × Int32) := if y3 ≤ y6 then (f_X11_fair_130 sh K35 g y1 y2 z0 y5 y3) else (f_X11_fair_130 sh K35 g y1 y2 z0 y5 y6)
noncomputable def f_X11_fair_94 (sh : List gb_Sh) (K48 : gb_G → Int32 → Int32 → Int32 → Int32 → Int32 → Int32 → Int32 → Option (gb_G × Int32)) (g : gb_G) (y1 : Int32) (y2 : Int32) (y3 : Int32) (y4 : Int32) (y5 : Int32) (y7 : Int32) (z0 : Int32) (z1 : Int32) : Option (gb_G × Int32) := K48 g y1 y2 y3 y4 y5 (z1 + z0) (y7 + 1)
noncomputable def f_X11_fair_48 (sh : List gb_Sh) (K35 : gb_G → Int32 → Int32 → Int32 → Int32 → Int32 → Option (gb_G × Int32)) : Nat → gb_G → Int32 → Int32 → Int32 → Int32 → Int32 → Int32 → Int32 → Option (gb_G × Int32)
  | 0, _, _, _, _, _, _, _, _ => none
  | n + 1, g, y1, y2, y3, y4, y5, y6, y7 => if (g.1 79 1) ≤ y7 then (if y3 ≤ y6 then (f_X11_fair_116 sh K35 g y1 y2 y3 y5 y6 y4) else (f_X11_fair_116 sh K35 g y1 y2 y3 y5 y6 y5)) else (gb_ck ((64 + (8 * y7)) + y1) 5520 (if 0 ≤ ((g.1 79 (((64 + (8 * y7)) + y1).toNatClampNeg)) - y5) then (f_X11_fair_94 sh (fun w w0 w1 w2 w3 w4 w5 w6 => f_X11_fair_48 sh K35 n w w0 w1 w2 w3 w4 w5 w6) g y1 y2 y3 y4 y5 y7 ((g.1 79 (((64 + (8 * y7)) + y1).toNatClampNeg)) - y5) y6) else (f_X11_fair_94 sh (fun w w0 w1 w2 w3 w4 w5 w6 => f_X11_fair_48 sh K35 n w w0 w1 w2 w3 w4 w5 w6) g y1 y2 y3 y4 y5 y7 (-((g.1 79 (((64 + (8 * y7)) + y1).toNatClampNeg)) - y5)) y6)))
noncomputable def f_X11_fair_35 (sh : List gb_Sh) : Nat → gb_G → Int32 → Int32 → Int32 → Int32 → Int32 → Option (gb_G × Int32)
  | 0, _, _, _, _, _, _ => none
  | n + 1, g, y1, y2, y3, y4, y5 => if 10 ≤ y5 then (if y2 = 0 then (some (g, y4)) else (some (g, y3))) else (f_X11_fair_48 sh (fun w w0 w1 w2 w3 w4 => f_X11_fair_35 sh n w w0 w1 w2 w3 w4) gb_N g y1 y2 y3 y4 y5 0 0)
noncomputable def f_X11_fair (sh : List gb_Sh) (g : gb_G) (x1 : Int32) (x2 : Int32) : Option (gb_G × Int32) := gb_let (gb_pi g 77 0 0) (fun g1 => gb_bd (f_X11_isGood sh g1 x1) (fun r2 => if r2.2 = 0 then (some (r2.1, (-1))) else (gb_bd (f_X11_in sh r2.1 x2.toInt64 0 1) (fun r4 => if r4.2 = 0 then (some (r4.1, (-1))) else (f_X11_fair_35 sh gb_N r4.1 x1 x2 100000000 (-1) 0)))))
set_option maxRecDepth 100000 in
set_option maxHeartbeats 4000000 in
theorem t_X11_fair_130 {Γ : gb_X} {sh : List gb_Sh} {out : gb_G × Int32} (hS : gb_S sh) {K35 : gb_G → Int32 → Int32 → Int32 → Int32 → Int32 → Option (gb_G × Int32)} (hK35 : ∀ (g : gb_G) (y1 : Int32) (y2 : Int32) (y3 : Int32) (y4 : Int32) (y5 : Int32), K35 g y1 y2 y3 y4 y5 = some out → gb_J Γ M_X11_fair 2 (gb_Ri sh out) 0 0 sh g 35 [(0, .ref 77), (1, .int y1), (2, .int y2), (3, .int y3), (4, .int y4), (5, .int y5)] []) : ∀ (g : gb_G) (y1 : Int32) (y2 : Int32) (y4 : Int32) (y5 : Int32) (z0 : Int32), f_X11_fair_130 sh K35 g y1 y2 y4 y5 z0 = some out → gb_J Γ M_X11_fair 2 (gb_Ri sh out) 0 0 sh g 130 [(0, .ref 77), (1, .int y1), (2, .int y2), (4, .int y4), (5, .int y5)] [.int z0] := by
  intro g y1 y2 y4 y5 z0 h
  unfold f_X11_fair_130 at h
  refine gb_istore_n [(3, .int z0), (0, .ref 77), (1, .int y1), (2, .int y2), (4, .int y4), (5, .int y5)] d_X11_fair_130 (Nat.le_of_ble_eq_true rfl) rfl ?_
  refine gb_iinc (y5 + 1) [(5, .int (y5 + 1)), (3, .int z0), (0, .ref 77), (1, .int y1), (2, .int y2), (4, .int y4)] d_X11_fair_131 (Nat.le_of_ble_eq_true rfl) rfl rfl rfl ?_
  refine gb_goto 35 d_X11_fair_134 (by decide) ?_
  refine gb_pick (lv' := [(0, .ref 77), (1, .int y1), (2, .int y2), (3, .int z0), (4, .int y4), (5, .int (y5 + 1))]) [2, 3, 4, 1, 5, 0] rfl ?_
  exact hK35 _ y1 y2 z0 y4 (y5 + 1) h
set_option maxRecDepth 100000 in
set_option maxHeartbeats 4000000 in
theorem t_X11_fair_116 {Γ : gb_X} {sh : List gb_Sh} {out : gb_G × Int32} (hS : gb_S sh) {K35 : gb_G → Int32 → Int32 → Int32 → Int32 → Int32 → Option (gb_G × Int32)} (hK35 : ∀ (g : gb_G) (y1 : Int32) (y2 : Int32) (y3 : Int32) (y4 : Int32) (y5 : Int32), K35 g y1 y2 y3 y4 y5 = some out → gb_J Γ M_X11_fair 2 (gb_Ri sh out) 0 0 sh g 35 [(0, .ref 77), (1, .int y1), (2, .int y2), (3, .int y3), (4, .int y4), (5, .int y5)] []) : ∀ (g : gb_G) (y1 : Int32) (y2 : Int32) (y3 : Int32) (y5 : Int32) (y6 : Int32) (z0 : Int32), f_X11_fair_116 sh K35 g y1 y2 y3 y5 y6 z0 = some out → gb_J Γ M_X11_fair 2 (gb_Ri sh out) 0 0 sh g 116 [(0, .ref 77), (1, .int y1), (2, .int y2), (3, .int y3), (5, .int y5), (6, .int y6)] [.int z0] := by
  intro g y1 y2 y3 y5 y6 z0 h
  unfold f_X11_fair_116 at h
  refine gb_istore [(4, .int z0), (0, .ref 77), (1, .int y1), (2, .int y2), (3, .int y3), (5, .int y5), (6, .int y6)] d_X11_fair_116 (Nat.le_of_ble_eq_true rfl) rfl ?_
  refine gb_iload d_X11_fair_118 rfl ?_
  refine gb_iload_n d_X11_fair_120 rfl ?_
  refine gb_icmp_ge 129 d_X11_fair_121 (by decide) (fun hc => ?_) (fun hc => ?_)
  · have h := gb_it hc h
    refine gb_iload_n d_X11_fair_129 rfl ?_
    refine gb_pick (lv' := [(0, .ref 77), (1, .int y1), (2, .int y2), (4, .int z0), (5, .int y5)]) [1, 2, 3, 0, 5] rfl ?_
    exact t_X11_fair_130 hS hK35 _ y1 y2 z0 y5 y3 h
  · have h := gb_if hc h
    refine gb_iload d_X11_fair_124 rfl ?_
    refine gb_goto 130 d_X11_fair_126 (by decide) ?_
    refine gb_pick (lv' := [(0, .ref 77), (1, .int y1), (2, .int y2), (4, .int z0), (5, .int y5)]) [1, 2, 3, 0, 5] rfl ?_
    exact t_X11_fair_130 hS hK35 _ y1 y2 z0 y5 y6 h
set_option maxRecDepth 100000 in
set_option maxHeartbeats 4000000 in
theorem t_X11_fair_94 {Γ : gb_X} {sh : List gb_Sh} {out : gb_G × Int32} (hS : gb_S sh) {K48 : gb_G → Int32 → Int32 → Int32 → Int32 → Int32 → Int32 → Int32 → Option (gb_G × Int32)} (hK48 : ∀ (g : gb_G) (y1 : Int32) (y2 : Int32) (y3 : Int32) (y4 : Int32) (y5 : Int32) (y6 : Int32) (y7 : Int32), K48 g y1 y2 y3 y4 y5 y6 y7 = some out → gb_J Γ M_X11_fair 2 (gb_Ri sh out) 0 0 sh g 48 [(0, .ref 77), (1, .int y1), (2, .int y2), (3, .int y3), (4, .int y4), (5, .int y5), (6, .int y6), (7, .int y7)] []) : ∀ (g : gb_G) (y1 : Int32) (y2 : Int32) (y3 : Int32) (y4 : Int32) (y5 : Int32) (y7 : Int32) (z0 : Int32) (z1 : Int32), f_X11_fair_94 sh K48 g y1 y2 y3 y4 y5 y7 z0 z1 = some out → gb_J Γ M_X11_fair 2 (gb_Ri sh out) 0 0 sh g 94 [(0, .ref 77), (1, .int y1), (2, .int y2), (3, .int y3), (4, .int y4), (5, .int y5), (7, .int y7)] [.int z0, .int z1] := by
  intro g y1 y2 y3 y4 y5 y7 z0 z1 h
  unfold f_X11_fair_94 at h
  refine gb_iadd d_X11_fair_94 ?_
  refine gb_istore [(6, .int (z1 + z0)), (0, .ref 77), (1, .int y1), (2, .int y2), (3, .int y3), (4, .int y4), (5, .int y5), (7, .int y7)] d_X11_fair_95 (Nat.le_of_ble_eq_true rfl) rfl ?_
  refine gb_iinc (y7 + 1) [(7, .int (y7 + 1)), (6, .int (z1 + z0)), (0, .ref 77), (1, .int y1), (2, .int y2), (3, .int y3), (4, .int y4), (5, .int y5)] d_X11_fair_97 (Nat.le_of_ble_eq_true rfl) rfl rfl rfl ?_
  refine gb_goto 48 d_X11_fair_100 (by decide) ?_
  refine gb_pick (lv' := [(0, .ref 77), (1, .int y1), (2, .int y2), (3, .int y3), (4, .int y4), (5, .int y5), (6, .int (z1 + z0)), (7, .int (y7 + 1))]) [2, 3, 4, 5, 6, 7, 1, 0] rfl ?_
  exact hK48 _ y1 y2 y3 y4 y5 (z1 + z0) (y7 + 1) h
set_option maxRecDepth 100000 in
set_option maxHeartbeats 4000000 in
theorem t_X11_fair_48 {Γ : gb_X} {sh : List gb_Sh} {out : gb_G × Int32} (hS : gb_S sh) {K35 : gb_G → Int32 → Int32 → Int32 → Int32 → Int32 → Option (gb_G × Int32)} (hK35 : ∀ (g : gb_G) (y1 : Int32) (y2 : Int32) (y3 : Int32) (y4 : Int32) (y5 : Int32), K35 g y1 y2 y3 y4 y5 = some out → gb_J Γ M_X11_fair 2 (gb_Ri sh out) 0 0 sh g 35 [(0, .ref 77), (1, .int y1), (2, .int y2), (3, .int y3), (4, .int y4), (5, .int y5)] []) : ∀ (n : Nat) (g : gb_G) (y1 : Int32) (y2 : Int32) (y3 : Int32) (y4 : Int32) (y5 : Int32) (y6 : Int32) (y7 : Int32), f_X11_fair_48 sh K35 n g y1 y2 y3 y4 y5 y6 y7 = some out → gb_J Γ M_X11_fair 2 (gb_Ri sh out) 0 0 sh g 48 [(0, .ref 77), (1, .int y1), (2, .int y2), (3, .int y3), (4, .int y4), (5, .int y5), (6, .int y6), (7, .int y7)] [] := by
  intro n
  induction n with
  | zero => intro g y1 y2 y3 y4 y5 y6 y7 h; cases h
  | succ n ih =>
    intro g y1 y2 y3 y4 y5 y6 y7 h
    rw [f_X11_fair_48] at h
    refine gb_iload d_X11_fair_48 rfl ?_
    refine gb_aload_n d_X11_fair_50 rfl ?_
    refine gb_getr (r := 79) f_X11_13 (hS 77 _ rfl) rfl d_X11_fair_51 ?_
    refine gb_iconst 1 d_X11_fair_54 rfl ?_
    refine gb_iald_ 1 rfl (hS 79 _ rfl) (by unfold vp_in; decide) d_X11_fair_55 ?_
    refine gb_icmp_ge 103 d_X11_fair_56 (by decide) (fun hc => ?_) (fun hc => ?_)
    · have h := gb_it hc h
      refine gb_iload d_X11_fair_103 rfl ?_
      refine gb_iload_n d_X11_fair_105 rfl ?_
      refine gb_icmp_ge 114 d_X11_fair_106 (by decide) (fun hc => ?_) (fun hc => ?_)
      · have h := gb_it hc h
        refine gb_iload d_X11_fair_114 rfl ?_
        refine gb_pick (lv' := [(0, .ref 77), (1, .int y1), (2, .int y2), (3, .int y3), (5, .int y5), (6, .int y6)]) [0, 1, 2, 3, 5, 6] rfl ?_
        exact t_X11_fair_116 hS hK35 _ y1 y2 y3 y5 y6 y4 h
      · have h := gb_if hc h
        refine gb_iload d_X11_fair_109 rfl ?_
        refine gb_goto 116 d_X11_fair_111 (by decide) ?_
        refine gb_pick (lv' := [(0, .ref 77), (1, .int y1), (2, .int y2), (3, .int y3), (5, .int y5), (6, .int y6)]) [0, 1, 2, 3, 5, 6] rfl ?_
        exact t_X11_fair_116 hS hK35 _ y1 y2 y3 y5 y6 y5 h
    · have h := gb_if hc h
      refine gb_aload_n d_X11_fair_59 rfl ?_
      refine gb_getr (r := 79) f_X11_13 (hS 77 _ rfl) rfl d_X11_fair_60 ?_
      refine gb_bipush 64 d_X11_fair_63 rfl ?_
      refine gb_bipush 8 d_X11_fair_65 rfl ?_
      refine gb_iload d_X11_fair_67 rfl ?_
      refine gb_imul d_X11_fair_69 ?_
      refine gb_iadd d_X11_fair_70 ?_
      refine gb_iload_n d_X11_fair_71 rfl ?_
      refine gb_iadd d_X11_fair_72 ?_
      obtain ⟨hi6, h⟩ := gb_ck_e h
      refine gb_iald_ (((64 + (8 * y7)) + y1).toNatClampNeg) rfl (hS 79 _ rfl) hi6 d_X11_fair_73 ?_
      refine gb_iload d_X11_fair_74 rfl ?_
      refine gb_isub d_X11_fair_76 ?_
      refine gb_istore [(8, .int ((g.1 79 (((64 + (8 * y7)) + y1).toNatClampNeg)) - y5)), (0, .ref 77), (1, .int y1), (2, .int y2), (3, .int y3), (4, .int y4), (5, .int y5), (6, .int y6), (7, .int y7)] d_X11_fair_77 (Nat.le_of_ble_eq_true rfl) rfl ?_
      refine gb_iload d_X11_fair_79 rfl ?_
      refine gb_iload d_X11_fair_81 rfl ?_
      refine gb_if_ge 92 d_X11_fair_83 (by decide) (fun hc => ?_) (fun hc => ?_)
      · have h := gb_it hc h
        refine gb_iload d_X11_fair_92 rfl ?_
        refine gb_pick (lv' := [(0, .ref 77), (1, .int y1), (2, .int y2), (3, .int y3), (4, .int y4), (5, .int y5), (7, .int y7)]) [1, 2, 3, 4, 5, 6, 8] rfl ?_
        exact t_X11_fair_94 hS (fun w w0 w1 w2 w3 w4 w5 w6 hw => ih w w0 w1 w2 w3 w4 w5 w6 hw) _ y1 y2 y3 y4 y5 y7 ((g.1 79 (((64 + (8 * y7)) + y1).toNatClampNeg)) - y5) y6 h
      · have h := gb_if hc h
        refine gb_iload d_X11_fair_86 rfl ?_
        refine gb_ineg d_X11_fair_88 ?_
        refine gb_goto 94 d_X11_fair_89 (by decide) ?_
        refine gb_pick (lv' := [(0, .ref 77), (1, .int y1), (2, .int y2), (3, .int y3), (4, .int y4), (5, .int y5), (7, .int y7)]) [1, 2, 3, 4, 5, 6, 8] rfl ?_
        exact t_X11_fair_94 hS (fun w w0 w1 w2 w3 w4 w5 w6 hw => ih w w0 w1 w2 w3 w4 w5 w6 hw) _ y1 y2 y3 y4 y5 y7 (-((g.1 79 (((64 + (8 * y7)) + y1).toNatClampNeg)) - y5)) y6 h
set_option maxRecDepth 100000 in
set_option maxHeartbeats 4000000 in
theorem t_X11_fair_35 {Γ : gb_X} {sh : List gb_Sh} {out : gb_G × Int32} (hS : gb_S sh) : ∀ (n : Nat) (g : gb_G) (y1 : Int32) (y2 : Int32) (y3 : Int32) (y4 : Int32) (y5 : Int32), f_X11_fair_35 sh n g y1 y2 y3 y4 y5 = some out → gb_J Γ M_X11_fair 2 (gb_Ri sh out) 0 0 sh g 35 [(0, .ref 77), (1, .int y1), (2, .int y2), (3, .int y3), (4, .int y4), (5, .int y5)] [] := by
  intro n
  induction n with
  | zero => intro g y1 y2 y3 y4 y5 h; cases h
  | succ n ih =>
    intro g y1 y2 y3 y4 y5 h
    rw [f_X11_fair_35] at h
    refine gb_iload d_X11_fair_35 rfl ?_
    refine gb_bipush 10 d_X11_fair_37 rfl ?_
    refine gb_icmp_ge 137 d_X11_fair_39 (by decide) (fun hc => ?_) (fun hc => ?_)
    · have h := gb_it hc h
      refine gb_iload_n d_X11_fair_137 rfl ?_
      refine gb_if_ne 146 d_X11_fair_138 (by decide) (fun hc => ?_) (fun hc => ?_)
      · have h := gb_if hc h
        refine gb_iload_n d_X11_fair_146 rfl ?_
        cases h
        exact gb_iret d_X11_fair_147 rfl ⟨rfl, rfl, rfl⟩
      · have h := gb_it hc h
        refine gb_iload d_X11_fair_141 rfl ?_
        refine gb_goto 147 d_X11_fair_143 (by decide) ?_
        cases h
        exact gb_iret d_X11_fair_147 rfl ⟨rfl, rfl, rfl⟩
    · have h := gb_if hc h
      refine gb_iconst 0 d_X11_fair_42 rfl ?_
      refine gb_istore [(6, .int 0), (0, .ref 77), (1, .int y1), (2, .int y2), (3, .int y3), (4, .int y4), (5, .int y5)] d_X11_fair_43 (Nat.le_of_ble_eq_true rfl) rfl ?_
      refine gb_iconst 0 d_X11_fair_45 rfl ?_
      refine gb_istore [(7, .int 0), (6, .int 0), (0, .ref 77), (1, .int y1), (2, .int y2), (3, .int y3), (4, .int y4), (5, .int y5)] d_X11_fair_46 (Nat.le_of_ble_eq_true rfl) rfl ?_
      refine gb_pick (lv' := [(0, .ref 77), (1, .int y1), (2, .int y2), (3, .int y3), (4, .int y4), (5, .int y5), (6, .int 0), (7, .int 0)]) [2, 3, 4, 5, 6, 7, 1, 0] rfl ?_
      exact t_X11_fair_48 hS (fun w w0 w1 w2 w3 w4 hw => ih w w0 w1 w2 w3 w4 hw) gb_N _ y1 y2 y3 y4 y5 0 0 h
set_option maxRecDepth 100000 in
set_option maxHeartbeats 4000000 in
theorem t_X11_fair {Γ : gb_X} {sh : List gb_Sh} {x1 : Int32} {x2 : Int32} {out : gb_G × Int32} (hS : gb_S sh) {g : gb_G} (h : f_X11_fair sh g x1 x2 = some out) : gb_C Γ M_X11_fair 2 0 0 sh g [.ref 77, .int x1, .int x2] (gb_Ri sh out) := by
  refine gb_C.of rfl (Nat.le_of_ble_eq_true rfl) ?_
  refine gb_pick (lv' := [(0, .ref 77), (1, .int x1), (2, .int x2)]) [0, 1, 2] rfl ?_
  unfold f_X11_fair at h
  refine gb_aload_n d_X11_fair_0 rfl ?_
  refine gb_iconst 0 d_X11_fair_1 rfl ?_
  refine gb_puti f_X11_145 (fun h => nomatch h) (hS 77 _ rfl) rfl rfl rfl d_X11_fair_2 ?_
  have h := gb_let_e h
  generalize gb_pi g 77 0 0 = g1 at h ⊢
  refine gb_aload_n d_X11_fair_5 rfl ?_
  refine gb_iload_n d_X11_fair_6 rfl ?_
  obtain ⟨r2, e3, h⟩ := gb_bd_e h
  refine gb_cVi (As := [.int x1]) (rest := []) m_X11_184 (t_X11_isGood (Γ := Γ) hS e3) (hS 77 _ rfl) rfl (Nat.le_of_ble_eq_true rfl) rfl rfl (Nat.le_of_ble_eq_true rfl) d_X11_fair_7 ?_
  refine gb_if_eq 23 d_X11_fair_10 (by decide) (fun hc => ?_) (fun hc => ?_)
  · have h := gb_it hc h
    refine gb_iconst (-1) d_X11_fair_23 rfl ?_
    cases h
    exact gb_iret d_X11_fair_24 rfl ⟨rfl, rfl, rfl⟩
  · have h := gb_if hc h
    refine gb_iload_n d_X11_fair_13 rfl ?_
    refine gb_i2l d_X11_fair_14 ?_
    refine gb_lconst 0 d_X11_fair_15 rfl ?_
    refine gb_lconst 1 d_X11_fair_16 rfl ?_
    obtain ⟨r4, e5, h⟩ := gb_bd_e h
    refine gb_cSi (As := [.long x2.toInt64, .long 0, .long 1]) (rest := []) m_X11_165 (t_X11_in (Γ := Γ) hS e5) (Nat.le_of_ble_eq_true rfl) rfl rfl (Nat.le_of_ble_eq_true rfl) d_X11_fair_17 ?_
    refine gb_if_ne 25 d_X11_fair_20 (by decide) (fun hc => ?_) (fun hc => ?_)
    · have h := gb_if hc h
      refine gb_ldcw 100000000 k_X11_461 d_X11_fair_25 ?_
      refine gb_istore_n [(3, .int 100000000), (0, .ref 77), (1, .int x1), (2, .int x2)] d_X11_fair_28 (Nat.le_of_ble_eq_true rfl) rfl ?_
      refine gb_iconst (-1) d_X11_fair_29 rfl ?_
      refine gb_istore [(4, .int (-1)), (3, .int 100000000), (0, .ref 77), (1, .int x1), (2, .int x2)] d_X11_fair_30 (Nat.le_of_ble_eq_true rfl) rfl ?_
      refine gb_iconst 0 d_X11_fair_32 rfl ?_
      refine gb_istore [(5, .int 0), (4, .int (-1)), (3, .int 100000000), (0, .ref 77), (1, .int x1), (2, .int x2)] d_X11_fair_33 (Nat.le_of_ble_eq_true rfl) rfl ?_
      refine gb_pick (lv' := [(0, .ref 77), (1, .int x1), (2, .int x2), (3, .int 100000000), (4, .int (-1)), (5, .int 0)]) [3, 4, 5, 2, 1, 0] rfl ?_
      exact t_X11_fair_35 hS  gb_N _ x1 x2 100000000 (-1) 0 h
    · have h := gb_it hc h
      refine gb_iconst (-1) d_X11_fair_23 rfl ?_
      cases h
      exact gb_iret d_X11_fair_24 rfl ⟨rfl, rfl, rfl⟩
-- X11_hear
noncomputable def f_X11_hear (sh : List gb_Sh) (g : gb_G) (x1 : Int32) : Option (gb_G × Int32) := gb_let (gb_pi g 77 0 0) (fun g1 => gb_bd (f_X11_in sh g1 x1.toInt64 0 999) (fun r2 => if r2.2 = 0 then (gb_bd (f_X11_tell sh r2.1 (-1)) (fun r11 => some (r11.1, r11.2))) else (if (r2.1.1 79 2) = 12 then (gb_bd (f_X11_tell sh r2.1 (-5)) (fun r9 => some (r9.1, r9.2))) else (gb_ck (104 + (r2.1.1 79 2)) 5520 (gb_let (gb_pi r2.1 79 ((104 + (r2.1.1 79 2)).toNatClampNeg) x1) (fun g5 => gb_let (gb_pi g5 79 2 ((g5.1 79 2) + 1)) (fun g6 => gb_bd (f_X11_tell sh g6 ((r2.1.1 79 2) + 1)) (fun r7 => some (r7.1, r7.2)))))))))
set_option maxRecDepth 100000 in
set_option maxHeartbeats 4000000 in
theorem t_X11_hear {Γ : gb_X} {sh : List gb_Sh} {x1 : Int32} {out : gb_G × Int32} (hS : gb_S sh) {g : gb_G} (h : f_X11_hear sh g x1 = some out) : gb_C Γ M_X11_hear 1 0 0 sh g [.ref 77, .int x1] (gb_Ri sh out) := by
  refine gb_C.of rfl (Nat.le_of_ble_eq_true rfl) ?_
  refine gb_pick (lv' := [(0, .ref 77), (1, .int x1)]) [0, 1] rfl ?_
  unfold f_X11_hear at h
  refine gb_aload_n d_X11_hear_0 rfl ?_
  refine gb_iconst 0 d_X11_hear_1 rfl ?_
  refine gb_puti f_X11_145 (fun h => nomatch h) (hS 77 _ rfl) rfl rfl rfl d_X11_hear_2 ?_
  have h := gb_let_e h
  generalize gb_pi g 77 0 0 = g1 at h ⊢
  refine gb_iload_n d_X11_hear_5 rfl ?_
  refine gb_i2l d_X11_hear_6 ?_
  refine gb_lconst 0 d_X11_hear_7 rfl ?_
  refine gb_ldc2 999 k_X11_208 d_X11_hear_8 ?_
  obtain ⟨r2, e3, h⟩ := gb_bd_e h
  refine gb_cSi (As := [.long x1.toInt64, .long 0, .long 999]) (rest := []) m_X11_165 (t_X11_in (Γ := Γ) hS e3) (Nat.le_of_ble_eq_true rfl) rfl rfl (Nat.le_of_ble_eq_true rfl) d_X11_hear_11 ?_
  refine gb_if_ne 23 d_X11_hear_14 (by decide) (fun hc => ?_) (fun hc => ?_)
  · have h := gb_if hc h
    refine gb_aload_n d_X11_hear_23 rfl ?_
    refine gb_getr (r := 79) f_X11_13 (hS 77 _ rfl) rfl d_X11_hear_24 ?_
    refine gb_iconst 2 d_X11_hear_27 rfl ?_
    refine gb_iald_ 2 rfl (hS 79 _ rfl) (by unfold vp_in; decide) d_X11_hear_28 ?_
    refine gb_istore_n [(2, .int (r2.1.1 79 2)), (0, .ref 77), (1, .int x1)] d_X11_hear_29 (Nat.le_of_ble_eq_true rfl) rfl ?_
    refine gb_iload_n d_X11_hear_30 rfl ?_
    refine gb_bipush 12 d_X11_hear_31 rfl ?_
    refine gb_icmp_ne 43 d_X11_hear_33 (by decide) (fun hc => ?_) (fun hc => ?_)
    · have h := gb_if hc h
      refine gb_aload_n d_X11_hear_43 rfl ?_
      refine gb_getr (r := 79) f_X11_13 (hS 77 _ rfl) rfl d_X11_hear_44 ?_
      refine gb_bipush 104 d_X11_hear_47 rfl ?_
      refine gb_iload_n d_X11_hear_49 rfl ?_
      refine gb_iadd d_X11_hear_50 ?_
      refine gb_iload_n d_X11_hear_51 rfl ?_
      obtain ⟨hi4, h⟩ := gb_ck_e h
      refine gb_iast_ ((104 + (r2.1.1 79 2)).toNatClampNeg) rfl (hS 79 _ rfl) hi4 d_X11_hear_52 ?_
      have h := gb_let_e h
      generalize gb_pi r2.1 79 ((104 + (r2.1.1 79 2)).toNatClampNeg) x1 = g5 at h ⊢
      refine gb_aload_n d_X11_hear_53 rfl ?_
      refine gb_getr (r := 79) f_X11_13 (hS 77 _ rfl) rfl d_X11_hear_54 ?_
      refine gb_iconst 2 d_X11_hear_57 rfl ?_
      refine gb_dup2 d_X11_hear_58 rfl rfl ?_
      refine gb_iald_ 2 rfl (hS 79 _ rfl) (by unfold vp_in; decide) d_X11_hear_59 ?_
      refine gb_iconst 1 d_X11_hear_60 rfl ?_
      refine gb_iadd d_X11_hear_61 ?_
      refine gb_iast_ 2 rfl (hS 79 _ rfl) (by unfold vp_in; decide) d_X11_hear_62 ?_
      have h := gb_let_e h
      generalize gb_pi g5 79 2 ((g5.1 79 2) + 1) = g6 at h ⊢
      refine gb_aload_n d_X11_hear_63 rfl ?_
      refine gb_iload_n d_X11_hear_64 rfl ?_
      refine gb_iconst 1 d_X11_hear_65 rfl ?_
      refine gb_iadd d_X11_hear_66 ?_
      obtain ⟨r7, e8, h⟩ := gb_bd_e h
      refine gb_cVi (As := [.int ((r2.1.1 79 2) + 1)]) (rest := []) m_X11_154 (t_X11_tell (Γ := Γ) hS e8) (hS 77 _ rfl) rfl (Nat.le_of_ble_eq_true rfl) rfl rfl (Nat.le_of_ble_eq_true rfl) d_X11_hear_67 ?_
      cases h
      exact gb_iret d_X11_hear_70 rfl ⟨rfl, rfl, rfl⟩
    · have h := gb_it hc h
      refine gb_aload_n d_X11_hear_36 rfl ?_
      refine gb_bipush (-5) d_X11_hear_37 rfl ?_
      obtain ⟨r9, e10, h⟩ := gb_bd_e h
      refine gb_cVi (As := [.int (-5)]) (rest := []) m_X11_154 (t_X11_tell (Γ := Γ) hS e10) (hS 77 _ rfl) rfl (Nat.le_of_ble_eq_true rfl) rfl rfl (Nat.le_of_ble_eq_true rfl) d_X11_hear_39 ?_
      cases h
      exact gb_iret d_X11_hear_42 rfl ⟨rfl, rfl, rfl⟩
  · have h := gb_it hc h
    refine gb_aload_n d_X11_hear_17 rfl ?_
    refine gb_iconst (-1) d_X11_hear_18 rfl ?_
    obtain ⟨r11, e12, h⟩ := gb_bd_e h
    refine gb_cVi (As := [.int (-1)]) (rest := []) m_X11_154 (t_X11_tell (Γ := Γ) hS e12) (hS 77 _ rfl) rfl (Nat.le_of_ble_eq_true rfl) rfl rfl (Nat.le_of_ble_eq_true rfl) d_X11_hear_19 ?_
    cases h
    exact gb_iret d_X11_hear_22 rfl ⟨rfl, rfl, rfl⟩
-- X11_forget
noncomputable def f_X11_forget (sh : List gb_Sh) (g : gb_G) : Option (gb_G × Int32) := gb_let (gb_pi g 77 0 0) (fun g1 => gb_let (gb_pi g1 79 2 0) (fun g2 => some (g2, (g1.1 79 2))))
set_option maxRecDepth 100000 in
set_option maxHeartbeats 4000000 in
theorem t_X11_forget {Γ : gb_X} {sh : List gb_Sh} {out : gb_G × Int32} (hS : gb_S sh) {g : gb_G} (h : f_X11_forget sh g = some out) : gb_C Γ M_X11_forget 0 0 0 sh g [.ref 77] (gb_Ri sh out) := by
  refine gb_C.of rfl (Nat.le_of_ble_eq_true rfl) ?_
  refine gb_pick (lv' := [(0, .ref 77)]) [0] rfl ?_
  unfold f_X11_forget at h
  refine gb_aload_n d_X11_forget_0 rfl ?_
  refine gb_iconst 0 d_X11_forget_1 rfl ?_
  refine gb_puti f_X11_145 (fun h => nomatch h) (hS 77 _ rfl) rfl rfl rfl d_X11_forget_2 ?_
  have h := gb_let_e h
  generalize gb_pi g 77 0 0 = g1 at h ⊢
  refine gb_aload_n d_X11_forget_5 rfl ?_
  refine gb_getr (r := 79) f_X11_13 (hS 77 _ rfl) rfl d_X11_forget_6 ?_
  refine gb_iconst 2 d_X11_forget_9 rfl ?_
  refine gb_iald_ 2 rfl (hS 79 _ rfl) (by unfold vp_in; decide) d_X11_forget_10 ?_
  refine gb_istore_n [(1, .int (g1.1 79 2)), (0, .ref 77)] d_X11_forget_11 (Nat.le_of_ble_eq_true rfl) rfl ?_
  refine gb_aload_n d_X11_forget_12 rfl ?_
  refine gb_getr (r := 79) f_X11_13 (hS 77 _ rfl) rfl d_X11_forget_13 ?_
  refine gb_iconst 2 d_X11_forget_16 rfl ?_
  refine gb_iconst 0 d_X11_forget_17 rfl ?_
  refine gb_iast_ 2 rfl (hS 79 _ rfl) (by unfold vp_in; decide) d_X11_forget_18 ?_
  have h := gb_let_e h
  generalize gb_pi g1 79 2 0 = g2 at h ⊢
  refine gb_iload_n d_X11_forget_19 rfl ?_
  cases h
  exact gb_iret d_X11_forget_20 rfl ⟨rfl, rfl, rfl⟩
-- X11_trend
noncomputable def f_X11_trend_29 (sh : List gb_Sh) (g : gb_G)  : Option (gb_G × Int32) := some (g, (-100000))
noncomputable def f_X11_trend_179 (sh : List gb_Sh) (g : gb_G) (z0 : Int64) : Option (gb_G × Int32) := some (g, z0.toInt32)
noncomputable def f_X11_trend_162 (sh : List gb_Sh) (g : gb_G) (y1 : Int32) : Option (gb_G × Int32) := if (gb_rem y1 2) = 0 then (f_X11_trend_179 sh g (g.2.1 77 41)) else (f_X11_trend_179 sh g (g.2.1 77 42))
noncomputable def f_X11_trend_46 (sh : List gb_Sh) : Nat → gb_G → Int32 → Int32 → Int64 → Int64 → Int64 → Int64 → Int32 → Option (gb_G × Int32)
  | 0, _, _, _, _, _, _, _, _ => none
  | n + 1, g, y1, y2, y3, y5, y7, y9, y11 => if y2 ≤ y11 then (if 2 ≤ y1 then (gb_bd (f_X11_lowest sh g ((y5 * y7) - (y3 * y9)) ((y2.toInt64 * y7) - (y3 * y3))) (fun r4 => f_X11_trend_162 sh r4 y1)) else (gb_bd (f_X11_lowest sh g ((y2.toInt64 * y9) - (y3 * y5)) ((y2.toInt64 * y7) - (y3 * y3))) (fun r6 => f_X11_trend_162 sh r6 y1))) else (gb_ck (104 + y11) 5520 (gb_ck (104 + y11) 5520 (f_X11_trend_46 sh n g y1 y2 (y3 + y11.toInt64) (y5 + ((g.1 79 ((104 + y11).toNatClampNeg)).toInt64)) (y7 + ((y11 * y11).toInt64)) (y9 + (y11.toInt64 * ((g.1 79 ((104 + y11).toNatClampNeg)).toInt64))) (y11 + 1))))
noncomputable def f_X11_trend (sh : List gb_Sh) (g : gb_G) (x1 : Int32) : Option (gb_G × Int32) := gb_let (gb_pi g 77 0 0) (fun g1 => if (g1.1 79 2) < 2 then (f_X11_trend_29 sh g1 ) else (gb_bd (f_X11_in sh g1 x1.toInt64 0 3) (fun r2 => if r2.2 = 0 then (f_X11_trend_29 sh r2.1 ) else (f_X11_trend_46 sh gb_N r2.1 x1 (g1.1 79 2) 0 0 0 0 0))))
set_option maxRecDepth 100000 in
set_option maxHeartbeats 4000000 in
theorem t_X11_trend_29 {Γ : gb_X} {sh : List gb_Sh} {out : gb_G × Int32} (hS : gb_S sh) : ∀ (g : gb_G) , f_X11_trend_29 sh g  = some out → gb_J Γ M_X11_trend 2 (gb_Ri sh out) 0 0 sh g 29 [] [] := by
  intro g  h
  unfold f_X11_trend_29 at h
  refine gb_ldc (-100000) k_X11_188 d_X11_trend_29 ?_
  cases h
  exact gb_iret d_X11_trend_31 rfl ⟨rfl, rfl, rfl⟩
set_option maxRecDepth 100000 in
set_option maxHeartbeats 4000000 in
theorem t_X11_trend_179 {Γ : gb_X} {sh : List gb_Sh} {out : gb_G × Int32} (hS : gb_S sh) : ∀ (g : gb_G) (z0 : Int64), f_X11_trend_179 sh g z0 = some out → gb_J Γ M_X11_trend 2 (gb_Ri sh out) 0 0 sh g 179 [] [.long z0] := by
  intro g z0 h
  unfold f_X11_trend_179 at h
  refine gb_l2i d_X11_trend_179 ?_
  cases h
  exact gb_iret d_X11_trend_180 rfl ⟨rfl, rfl, rfl⟩
set_option maxRecDepth 100000 in
set_option maxHeartbeats 4000000 in
theorem t_X11_trend_162 {Γ : gb_X} {sh : List gb_Sh} {out : gb_G × Int32} (hS : gb_S sh) : ∀ (g : gb_G) (y1 : Int32), f_X11_trend_162 sh g y1 = some out → gb_J Γ M_X11_trend 2 (gb_Ri sh out) 0 0 sh g 162 [(0, .ref 77), (1, .int y1)] [] := by
  intro g y1 h
  unfold f_X11_trend_162 at h
  refine gb_iload_n d_X11_trend_162 rfl ?_
  refine gb_iconst 2 d_X11_trend_163 rfl ?_
  refine gb_rem_ d_X11_trend_164 (by decide) ?_
  refine gb_if_ne 175 d_X11_trend_165 (by decide) (fun hc => ?_) (fun hc => ?_)
  · have h := gb_if hc h
    refine gb_aload_n d_X11_trend_175 rfl ?_
    refine gb_getl f_X11_435 (hS 77 _ rfl) rfl d_X11_trend_176 ?_
    refine gb_pick (lv' := []) [] rfl ?_
    exact t_X11_trend_179 hS  _ (g.2.1 77 42) h
  · have h := gb_it hc h
    refine gb_aload_n d_X11_trend_168 rfl ?_
    refine gb_getl f_X11_432 (hS 77 _ rfl) rfl d_X11_trend_169 ?_
    refine gb_goto 179 d_X11_trend_172 (by decide) ?_
    refine gb_pick (lv' := []) [] rfl ?_
    exact t_X11_trend_179 hS  _ (g.2.1 77 41) h
set_option maxRecDepth 100000 in
set_option maxHeartbeats 4000000 in
theorem t_X11_trend_46 {Γ : gb_X} {sh : List gb_Sh} {out : gb_G × Int32} (hS : gb_S sh) : ∀ (n : Nat) (g : gb_G) (y1 : Int32) (y2 : Int32) (y3 : Int64) (y5 : Int64) (y7 : Int64) (y9 : Int64) (y11 : Int32), f_X11_trend_46 sh n g y1 y2 y3 y5 y7 y9 y11 = some out → gb_J Γ M_X11_trend 2 (gb_Ri sh out) 0 0 sh g 46 [(0, .ref 77), (1, .int y1), (2, .int y2), (3, .long y3), (5, .long y5), (7, .long y7), (9, .long y9), (11, .int y11)] [] := by
  intro n
  induction n with
  | zero => intro g y1 y2 y3 y5 y7 y9 y11 h; cases h
  | succ n ih =>
    intro g y1 y2 y3 y5 y7 y9 y11 h
    rw [f_X11_trend_46] at h
    refine gb_iload d_X11_trend_46 rfl ?_
    refine gb_iload_n d_X11_trend_48 rfl ?_
    refine gb_icmp_ge 111 d_X11_trend_49 (by decide) (fun hc => ?_) (fun hc => ?_)
    · have h := gb_it hc h
      refine gb_iload_n d_X11_trend_111 rfl ?_
      refine gb_i2l d_X11_trend_112 ?_
      refine gb_lload d_X11_trend_113 rfl ?_
      refine gb_lmul d_X11_trend_115 ?_
      refine gb_lload_n d_X11_trend_116 rfl ?_
      refine gb_lload_n d_X11_trend_117 rfl ?_
      refine gb_lmul d_X11_trend_118 ?_
      refine gb_lsub d_X11_trend_119 ?_
      refine gb_lstore [(11, .long ((y2.toInt64 * y7) - (y3 * y3))), (0, .ref 77), (1, .int y1), (2, .int y2), (3, .long y3), (5, .long y5), (7, .long y7), (9, .long y9)] d_X11_trend_120 (Nat.le_of_ble_eq_true rfl) rfl ?_
      refine gb_iload_n d_X11_trend_122 rfl ?_
      refine gb_iconst 2 d_X11_trend_123 rfl ?_
      refine gb_icmp_ge 146 d_X11_trend_124 (by decide) (fun hc => ?_) (fun hc => ?_)
      · have h := gb_it hc h
        refine gb_aload_n d_X11_trend_146 rfl ?_
        refine gb_lload d_X11_trend_147 rfl ?_
        refine gb_lload d_X11_trend_149 rfl ?_
        refine gb_lmul d_X11_trend_151 ?_
        refine gb_lload_n d_X11_trend_152 rfl ?_
        refine gb_lload d_X11_trend_153 rfl ?_
        refine gb_lmul d_X11_trend_155 ?_
        refine gb_lsub d_X11_trend_156 ?_
        refine gb_lload d_X11_trend_157 rfl ?_
        obtain ⟨r4, e5, h⟩ := gb_bd_e h
        refine gb_cVv (As := [.long ((y5 * y7) - (y3 * y9)), .long ((y2.toInt64 * y7) - (y3 * y3))]) (rest := []) m_X11_443 (t_X11_lowest (Γ := Γ) hS e5) (hS 77 _ rfl) rfl (Nat.le_of_ble_eq_true rfl) rfl rfl (Nat.le_of_ble_eq_true rfl) d_X11_trend_159 ?_
        refine gb_pick (lv' := [(0, .ref 77), (1, .int y1)]) [1, 2] rfl ?_
        exact t_X11_trend_162 hS  _ y1 h
      · have h := gb_if hc h
        refine gb_aload_n d_X11_trend_127 rfl ?_
        refine gb_iload_n d_X11_trend_128 rfl ?_
        refine gb_i2l d_X11_trend_129 ?_
        refine gb_lload d_X11_trend_130 rfl ?_
        refine gb_lmul d_X11_trend_132 ?_
        refine gb_lload_n d_X11_trend_133 rfl ?_
        refine gb_lload d_X11_trend_134 rfl ?_
        refine gb_lmul d_X11_trend_136 ?_
        refine gb_lsub d_X11_trend_137 ?_
        refine gb_lload d_X11_trend_138 rfl ?_
        obtain ⟨r6, e7, h⟩ := gb_bd_e h
        refine gb_cVv (As := [.long ((y2.toInt64 * y9) - (y3 * y5)), .long ((y2.toInt64 * y7) - (y3 * y3))]) (rest := []) m_X11_443 (t_X11_lowest (Γ := Γ) hS e7) (hS 77 _ rfl) rfl (Nat.le_of_ble_eq_true rfl) rfl rfl (Nat.le_of_ble_eq_true rfl) d_X11_trend_140 ?_
        refine gb_goto 162 d_X11_trend_143 (by decide) ?_
        refine gb_pick (lv' := [(0, .ref 77), (1, .int y1)]) [1, 2] rfl ?_
        exact t_X11_trend_162 hS  _ y1 h
    · have h := gb_if hc h
      refine gb_lload_n d_X11_trend_52 rfl ?_
      refine gb_iload d_X11_trend_53 rfl ?_
      refine gb_i2l d_X11_trend_55 ?_
      refine gb_ladd d_X11_trend_56 ?_
      refine gb_lstore_n [(3, .long (y3 + y11.toInt64)), (0, .ref 77), (1, .int y1), (2, .int y2), (5, .long y5), (7, .long y7), (9, .long y9), (11, .int y11)] d_X11_trend_57 (Nat.le_of_ble_eq_true rfl) rfl ?_
      refine gb_lload d_X11_trend_58 rfl ?_
      refine gb_aload_n d_X11_trend_60 rfl ?_
      refine gb_getr (r := 79) f_X11_13 (hS 77 _ rfl) rfl d_X11_trend_61 ?_
      refine gb_bipush 104 d_X11_trend_64 rfl ?_
      refine gb_iload d_X11_trend_66 rfl ?_
      refine gb_iadd d_X11_trend_68 ?_
      obtain ⟨hi8, h⟩ := gb_ck_e h
      refine gb_iald_ ((104 + y11).toNatClampNeg) rfl (hS 79 _ rfl) hi8 d_X11_trend_69 ?_
      refine gb_i2l d_X11_trend_70 ?_
      refine gb_ladd d_X11_trend_71 ?_
      refine gb_lstore [(5, .long (y5 + ((g.1 79 ((104 + y11).toNatClampNeg)).toInt64))), (3, .long (y3 + y11.toInt64)), (0, .ref 77), (1, .int y1), (2, .int y2), (7, .long y7), (9, .long y9), (11, .int y11)] d_X11_trend_72 (Nat.le_of_ble_eq_true rfl) rfl ?_
      refine gb_lload d_X11_trend_74 rfl ?_
      refine gb_iload d_X11_trend_76 rfl ?_
      refine gb_iload d_X11_trend_78 rfl ?_
      refine gb_imul d_X11_trend_80 ?_
      refine gb_i2l d_X11_trend_81 ?_
      refine gb_ladd d_X11_trend_82 ?_
      refine gb_lstore [(7, .long (y7 + ((y11 * y11).toInt64))), (5, .long (y5 + ((g.1 79 ((104 + y11).toNatClampNeg)).toInt64))), (3, .long (y3 + y11.toInt64)), (0, .ref 77), (1, .int y1), (2, .int y2), (9, .long y9), (11, .int y11)] d_X11_trend_83 (Nat.le_of_ble_eq_true rfl) rfl ?_
      refine gb_lload d_X11_trend_85 rfl ?_
      refine gb_iload d_X11_trend_87 rfl ?_
      refine gb_i2l d_X11_trend_89 ?_
      refine gb_aload_n d_X11_trend_90 rfl ?_
      refine gb_getr (r := 79) f_X11_13 (hS 77 _ rfl) rfl d_X11_trend_91 ?_
      refine gb_bipush 104 d_X11_trend_94 rfl ?_
      refine gb_iload d_X11_trend_96 rfl ?_
      refine gb_iadd d_X11_trend_98 ?_
      obtain ⟨hi9, h⟩ := gb_ck_e h
      refine gb_iald_ ((104 + y11).toNatClampNeg) rfl (hS 79 _ rfl) hi9 d_X11_trend_99 ?_
      refine gb_i2l d_X11_trend_100 ?_
      refine gb_lmul d_X11_trend_101 ?_
      refine gb_ladd d_X11_trend_102 ?_
      refine gb_lstore [(9, .long (y9 + (y11.toInt64 * ((g.1 79 ((104 + y11).toNatClampNeg)).toInt64)))), (7, .long (y7 + ((y11 * y11).toInt64))), (5, .long (y5 + ((g.1 79 ((104 + y11).toNatClampNeg)).toInt64))), (3, .long (y3 + y11.toInt64)), (0, .ref 77), (1, .int y1), (2, .int y2), (11, .int y11)] d_X11_trend_103 (Nat.le_of_ble_eq_true rfl) rfl ?_
      refine gb_iinc (y11 + 1) [(11, .int (y11 + 1)), (9, .long (y9 + (y11.toInt64 * ((g.1 79 ((104 + y11).toNatClampNeg)).toInt64)))), (7, .long (y7 + ((y11 * y11).toInt64))), (5, .long (y5 + ((g.1 79 ((104 + y11).toNatClampNeg)).toInt64))), (3, .long (y3 + y11.toInt64)), (0, .ref 77), (1, .int y1), (2, .int y2)] d_X11_trend_105 (Nat.le_of_ble_eq_true rfl) rfl rfl rfl ?_
      refine gb_goto 46 d_X11_trend_108 (by decide) ?_
      refine gb_pick (lv' := [(0, .ref 77), (1, .int y1), (2, .int y2), (3, .long (y3 + y11.toInt64)), (5, .long (y5 + ((g.1 79 ((104 + y11).toNatClampNeg)).toInt64))), (7, .long (y7 + ((y11 * y11).toInt64))), (9, .long (y9 + (y11.toInt64 * ((g.1 79 ((104 + y11).toNatClampNeg)).toInt64)))), (11, .int (y11 + 1))]) [5, 6, 7, 4, 3, 2, 1, 0] rfl ?_
      exact ih _ y1 y2 (y3 + y11.toInt64) (y5 + ((g.1 79 ((104 + y11).toNatClampNeg)).toInt64)) (y7 + ((y11 * y11).toInt64)) (y9 + (y11.toInt64 * ((g.1 79 ((104 + y11).toNatClampNeg)).toInt64))) (y11 + 1) h
set_option maxRecDepth 100000 in
set_option maxHeartbeats 4000000 in
theorem t_X11_trend {Γ : gb_X} {sh : List gb_Sh} {x1 : Int32} {out : gb_G × Int32} (hS : gb_S sh) {g : gb_G} (h : f_X11_trend sh g x1 = some out) : gb_C Γ M_X11_trend 2 0 0 sh g [.ref 77, .int x1] (gb_Ri sh out) := by
  refine gb_C.of rfl (Nat.le_of_ble_eq_true rfl) ?_
  refine gb_pick (lv' := [(0, .ref 77), (1, .int x1)]) [0, 1] rfl ?_
  unfold f_X11_trend at h
  refine gb_aload_n d_X11_trend_0 rfl ?_
  refine gb_iconst 0 d_X11_trend_1 rfl ?_
  refine gb_puti f_X11_145 (fun h => nomatch h) (hS 77 _ rfl) rfl rfl rfl d_X11_trend_2 ?_
  have h := gb_let_e h
  generalize gb_pi g 77 0 0 = g1 at h ⊢
  refine gb_aload_n d_X11_trend_5 rfl ?_
  refine gb_getr (r := 79) f_X11_13 (hS 77 _ rfl) rfl d_X11_trend_6 ?_
  refine gb_iconst 2 d_X11_trend_9 rfl ?_
  refine gb_iald_ 2 rfl (hS 79 _ rfl) (by unfold vp_in; decide) d_X11_trend_10 ?_
  refine gb_istore_n [(2, .int (g1.1 79 2)), (0, .ref 77), (1, .int x1)] d_X11_trend_11 (Nat.le_of_ble_eq_true rfl) rfl ?_
  refine gb_iload_n d_X11_trend_12 rfl ?_
  refine gb_iconst 2 d_X11_trend_13 rfl ?_
  refine gb_icmp_lt 29 d_X11_trend_14 (by decide) (fun hc => ?_) (fun hc => ?_)
  · have h := gb_it hc h
    refine gb_pick (lv' := []) [] rfl ?_
    exact t_X11_trend_29 hS  _  h
  · have h := gb_if hc h
    refine gb_iload_n d_X11_trend_17 rfl ?_
    refine gb_i2l d_X11_trend_18 ?_
    refine gb_lconst 0 d_X11_trend_19 rfl ?_
    refine gb_ldc2 3 k_X11_447 d_X11_trend_20 ?_
    obtain ⟨r2, e3, h⟩ := gb_bd_e h
    refine gb_cSi (As := [.long x1.toInt64, .long 0, .long 3]) (rest := []) m_X11_165 (t_X11_in (Γ := Γ) hS e3) (Nat.le_of_ble_eq_true rfl) rfl rfl (Nat.le_of_ble_eq_true rfl) d_X11_trend_23 ?_
    refine gb_if_ne 32 d_X11_trend_26 (by decide) (fun hc => ?_) (fun hc => ?_)
    · have h := gb_if hc h
      refine gb_lconst 0 d_X11_trend_32 rfl ?_
      refine gb_lstore_n [(3, .long 0), (2, .int (g1.1 79 2)), (0, .ref 77), (1, .int x1)] d_X11_trend_33 (Nat.le_of_ble_eq_true rfl) rfl ?_
      refine gb_lconst 0 d_X11_trend_34 rfl ?_
      refine gb_lstore [(5, .long 0), (3, .long 0), (2, .int (g1.1 79 2)), (0, .ref 77), (1, .int x1)] d_X11_trend_35 (Nat.le_of_ble_eq_true rfl) rfl ?_
      refine gb_lconst 0 d_X11_trend_37 rfl ?_
      refine gb_lstore [(7, .long 0), (5, .long 0), (3, .long 0), (2, .int (g1.1 79 2)), (0, .ref 77), (1, .int x1)] d_X11_trend_38 (Nat.le_of_ble_eq_true rfl) rfl ?_
      refine gb_lconst 0 d_X11_trend_40 rfl ?_
      refine gb_lstore [(9, .long 0), (7, .long 0), (5, .long 0), (3, .long 0), (2, .int (g1.1 79 2)), (0, .ref 77), (1, .int x1)] d_X11_trend_41 (Nat.le_of_ble_eq_true rfl) rfl ?_
      refine gb_iconst 0 d_X11_trend_43 rfl ?_
      refine gb_istore [(11, .int 0), (9, .long 0), (7, .long 0), (5, .long 0), (3, .long 0), (2, .int (g1.1 79 2)), (0, .ref 77), (1, .int x1)] d_X11_trend_44 (Nat.le_of_ble_eq_true rfl) rfl ?_
      refine gb_pick (lv' := [(0, .ref 77), (1, .int x1), (2, .int (g1.1 79 2)), (3, .long 0), (5, .long 0), (7, .long 0), (9, .long 0), (11, .int 0)]) [6, 7, 5, 4, 3, 2, 1, 0] rfl ?_
      exact t_X11_trend_46 hS  gb_N _ x1 (g1.1 79 2) 0 0 0 0 0 h
    · have h := gb_it hc h
      refine gb_pick (lv' := []) [] rfl ?_
      exact t_X11_trend_29 hS  _  h
-- X11_gets
noncomputable def f_X11_gets_25 (sh : List gb_Sh) (g : gb_G)  : Option (gb_G × Int64) := some (g, (-1))
noncomputable def f_X11_gets_90 (sh : List gb_Sh) (K80 : gb_G → Int32 → Int32 → Int32 → Option (gb_G × Int64)) : Nat → gb_G → Int32 → Int32 → Int32 → Int32 → Option (gb_G × Int64)
  | 0, _, _, _, _, _ => none
  | n + 1, g, y2, y3, y4, y5 => if y5 ≤ 0 then (K80 g y2 y3 (y4 + 1)) else (gb_ck y5 14 (gb_ck y5 14 (gb_let (gb_pj g 101 y5.toNatClampNeg (((g.2.1 101 y5.toNatClampNeg) * ((10 - y3).toInt64)) / 10)) (fun g8 => gb_ck (y5 + 1) 14 (gb_ck (y5 + 1) 14 (gb_let (gb_pj g8 101 ((y5 + 1).toNatClampNeg) ((g8.2.1 101 ((y5 + 1).toNatClampNeg)) + (((g.2.1 101 y5.toNatClampNeg) * y3.toInt64) / 10))) (fun g11 => f_X11_gets_90 sh K80 n g11 y2 y3 y4 (y5 + (-1)))))))))
noncomputable def f_X11_gets_80 (sh : List gb_Sh) : Nat → gb_G → Int32 → Int32 → Int32 → Option (gb_G × Int64)
  | 0, _, _, _, _ => none
  | n + 1, g, y2, y3, y4 => if y2 ≤ y4 then (some (g, (g.2.1 101 12))) else (f_X11_gets_90 sh (fun w w0 w1 w2 => f_X11_gets_80 sh n w w0 w1 w2) gb_N g y2 y3 y4 11)
noncomputable def f_X11_gets_62 (sh : List gb_Sh) (K31 : gb_G → Int32 → Int32 → Int32 → Option (gb_G × Int64)) (g : gb_G) (y1 : Int32) (y2 : Int32) (y3 : Int32) (z0 : Int64) (z1 : Int32) : Option (gb_G × Int64) := gb_ck z1 14 (gb_let (gb_pj g 101 z1.toNatClampNeg z0) (fun g14 => K31 g14 y1 y2 (y3 + 1)))
noncomputable def f_X11_gets_31 (sh : List gb_Sh) : Nat → gb_G → Int32 → Int32 → Int32 → Option (gb_G × Int64)
  | 0, _, _, _, _ => none
  | n + 1, g, y1, y2, y3 => if 14 ≤ y3 then (f_X11_gets_80 sh gb_N g y2 (g.1 79 6) 0) else (gb_ck (8 + y1) 5520 (if y3 = (g.1 79 ((8 + y1).toNatClampNeg)) then (f_X11_gets_62 sh (fun w w0 w1 w2 => f_X11_gets_31 sh n w w0 w1 w2) g y1 y2 y3 1000000000000 y3) else (f_X11_gets_62 sh (fun w w0 w1 w2 => f_X11_gets_31 sh n w w0 w1 w2) g y1 y2 y3 0 y3)))
noncomputable def f_X11_gets (sh : List gb_Sh) (g : gb_G) (x1 : Int32) (x2 : Int32) : Option (gb_G × Int64) := gb_let (gb_pi g 77 0 0) (fun g1 => gb_bd (f_X11_isGood sh g1 x1) (fun r2 => if r2.2 = 0 then (f_X11_gets_25 sh r2.1 ) else (gb_bd (f_X11_in sh r2.1 x2.toInt64 0 60) (fun r4 => if r4.2 = 0 then (f_X11_gets_25 sh r4.1 ) else (f_X11_gets_31 sh gb_N r4.1 x1 x2 0)))))
set_option maxRecDepth 100000 in
set_option maxHeartbeats 4000000 in
theorem t_X11_gets_25 {Γ : gb_X} {sh : List gb_Sh} {out : gb_G × Int64} (hS : gb_S sh) : ∀ (g : gb_G) , f_X11_gets_25 sh g  = some out → gb_J Γ M_X11_gets 2 (gb_Rl sh out) 0 0 sh g 25 [] [] := by
  intro g  h
  unfold f_X11_gets_25 at h
  refine gb_ldc2 (-1) k_X11_251 d_X11_gets_25 ?_
  cases h
  exact gb_lret d_X11_gets_28 rfl ⟨rfl, rfl, rfl⟩
set_option maxRecDepth 100000 in
set_option maxHeartbeats 4000000 in
theorem t_X11_gets_90 {Γ : gb_X} {sh : List gb_Sh} {out : gb_G × Int64} (hS : gb_S sh) {K80 : gb_G → Int32 → Int32 → Int32 → Option (gb_G × Int64)} (hK80 : ∀ (g : gb_G) (y2 : Int32) (y3 : Int32) (y4 : Int32), K80 g y2 y3 y4 = some out → gb_J Γ M_X11_gets 2 (gb_Rl sh out) 0 0 sh g 80 [(0, .ref 77), (2, .int y2), (3, .int y3), (4, .int y4)] []) : ∀ (n : Nat) (g : gb_G) (y2 : Int32) (y3 : Int32) (y4 : Int32) (y5 : Int32), f_X11_gets_90 sh K80 n g y2 y3 y4 y5 = some out → gb_J Γ M_X11_gets 2 (gb_Rl sh out) 0 0 sh g 90 [(0, .ref 77), (2, .int y2), (3, .int y3), (4, .int y4), (5, .int y5)] [] := by
  intro n
  induction n with
  | zero => intro g y2 y3 y4 y5 h; cases h
  | succ n ih =>
    intro g y2 y3 y4 y5 h
    rw [f_X11_gets_90] at h
    refine gb_iload d_X11_gets_90 rfl ?_
    refine gb_if_le 150 d_X11_gets_92 (by decide) (fun hc => ?_) (fun hc => ?_)
    · have h := gb_it hc h
      refine gb_iinc (y4 + 1) [(4, .int (y4 + 1)), (0, .ref 77), (2, .int y2), (3, .int y3), (5, .int y5)] d_X11_gets_150 (Nat.le_of_ble_eq_true rfl) rfl rfl rfl ?_
      refine gb_goto 80 d_X11_gets_153 (by decide) ?_
      refine gb_pick (lv' := [(0, .ref 77), (2, .int y2), (3, .int y3), (4, .int (y4 + 1))]) [1, 2, 3, 0] rfl ?_
      exact hK80 _ y2 y3 (y4 + 1) h
    · have h := gb_if hc h
      refine gb_aload_n d_X11_gets_95 rfl ?_
      refine gb_getr (r := 101) f_X11_119 (hS 77 _ rfl) rfl d_X11_gets_96 ?_
      refine gb_iload d_X11_gets_99 rfl ?_
      obtain ⟨hi6, h⟩ := gb_ck_e h
      refine gb_lald_ y5.toNatClampNeg rfl (hS 101 _ rfl) hi6 d_X11_gets_101 ?_
      refine gb_lstore [(6, .long (g.2.1 101 y5.toNatClampNeg)), (0, .ref 77), (2, .int y2), (3, .int y3), (4, .int y4), (5, .int y5)] d_X11_gets_102 (Nat.le_of_ble_eq_true rfl) rfl ?_
      refine gb_aload_n d_X11_gets_104 rfl ?_
      refine gb_getr (r := 101) f_X11_119 (hS 77 _ rfl) rfl d_X11_gets_105 ?_
      refine gb_iload d_X11_gets_108 rfl ?_
      refine gb_lload d_X11_gets_110 rfl ?_
      refine gb_bipush 10 d_X11_gets_112 rfl ?_
      refine gb_iload_n d_X11_gets_114 rfl ?_
      refine gb_isub d_X11_gets_115 ?_
      refine gb_i2l d_X11_gets_116 ?_
      refine gb_lmul d_X11_gets_117 ?_
      refine gb_ldc2 10 k_X11_210 d_X11_gets_118 ?_
      refine gb_ldiv d_X11_gets_121 (by decide) ?_
      obtain ⟨hi7, h⟩ := gb_ck_e h
      refine gb_last_ y5.toNatClampNeg rfl (hS 101 _ rfl) hi7 d_X11_gets_122 ?_
      have h := gb_let_e h
      generalize gb_pj g 101 y5.toNatClampNeg (((g.2.1 101 y5.toNatClampNeg) * ((10 - y3).toInt64)) / 10) = g8 at h ⊢
      refine gb_aload_n d_X11_gets_123 rfl ?_
      refine gb_getr (r := 101) f_X11_119 (hS 77 _ rfl) rfl d_X11_gets_124 ?_
      refine gb_iload d_X11_gets_127 rfl ?_
      refine gb_iconst 1 d_X11_gets_129 rfl ?_
      refine gb_iadd d_X11_gets_130 ?_
      refine gb_dup2 d_X11_gets_131 rfl rfl ?_
      obtain ⟨hi9, h⟩ := gb_ck_e h
      refine gb_lald_ ((y5 + 1).toNatClampNeg) rfl (hS 101 _ rfl) hi9 d_X11_gets_132 ?_
      refine gb_lload d_X11_gets_133 rfl ?_
      refine gb_iload_n d_X11_gets_135 rfl ?_
      refine gb_i2l d_X11_gets_136 ?_
      refine gb_lmul d_X11_gets_137 ?_
      refine gb_ldc2 10 k_X11_210 d_X11_gets_138 ?_
      refine gb_ldiv d_X11_gets_141 (by decide) ?_
      refine gb_ladd d_X11_gets_142 ?_
      obtain ⟨hi10, h⟩ := gb_ck_e h
      refine gb_last_ ((y5 + 1).toNatClampNeg) rfl (hS 101 _ rfl) hi10 d_X11_gets_143 ?_
      have h := gb_let_e h
      generalize gb_pj g8 101 ((y5 + 1).toNatClampNeg) ((g8.2.1 101 ((y5 + 1).toNatClampNeg)) + (((g.2.1 101 y5.toNatClampNeg) * y3.toInt64) / 10)) = g11 at h ⊢
      refine gb_iinc (y5 + (-1)) [(5, .int (y5 + (-1))), (6, .long (g.2.1 101 y5.toNatClampNeg)), (0, .ref 77), (2, .int y2), (3, .int y3), (4, .int y4)] d_X11_gets_144 (Nat.le_of_ble_eq_true rfl) rfl rfl rfl ?_
      refine gb_goto 90 d_X11_gets_147 (by decide) ?_
      refine gb_pick (lv' := [(0, .ref 77), (2, .int y2), (3, .int y3), (4, .int y4), (5, .int (y5 + (-1)))]) [2, 3, 4, 5, 0] rfl ?_
      exact ih _ y2 y3 y4 (y5 + (-1)) h
set_option maxRecDepth 100000 in
set_option maxHeartbeats 4000000 in
theorem t_X11_gets_80 {Γ : gb_X} {sh : List gb_Sh} {out : gb_G × Int64} (hS : gb_S sh) : ∀ (n : Nat) (g : gb_G) (y2 : Int32) (y3 : Int32) (y4 : Int32), f_X11_gets_80 sh n g y2 y3 y4 = some out → gb_J Γ M_X11_gets 2 (gb_Rl sh out) 0 0 sh g 80 [(0, .ref 77), (2, .int y2), (3, .int y3), (4, .int y4)] [] := by
  intro n
  induction n with
  | zero => intro g y2 y3 y4 h; cases h
  | succ n ih =>
    intro g y2 y3 y4 h
    rw [f_X11_gets_80] at h
    refine gb_iload d_X11_gets_80 rfl ?_
    refine gb_iload_n d_X11_gets_82 rfl ?_
    refine gb_icmp_ge 156 d_X11_gets_83 (by decide) (fun hc => ?_) (fun hc => ?_)
    · have h := gb_it hc h
      refine gb_aload_n d_X11_gets_156 rfl ?_
      refine gb_getr (r := 101) f_X11_119 (hS 77 _ rfl) rfl d_X11_gets_157 ?_
      refine gb_bipush 12 d_X11_gets_160 rfl ?_
      refine gb_lald_ 12 rfl (hS 101 _ rfl) (by unfold vp_in; decide) d_X11_gets_162 ?_
      cases h
      exact gb_lret d_X11_gets_163 rfl ⟨rfl, rfl, rfl⟩
    · have h := gb_if hc h
      refine gb_bipush 11 d_X11_gets_86 rfl ?_
      refine gb_istore [(5, .int 11), (0, .ref 77), (2, .int y2), (3, .int y3), (4, .int y4)] d_X11_gets_88 (Nat.le_of_ble_eq_true rfl) rfl ?_
      refine gb_pick (lv' := [(0, .ref 77), (2, .int y2), (3, .int y3), (4, .int y4), (5, .int 11)]) [1, 2, 3, 4, 0] rfl ?_
      exact t_X11_gets_90 hS (fun w w0 w1 w2 hw => ih w w0 w1 w2 hw) gb_N _ y2 y3 y4 11 h
set_option maxRecDepth 100000 in
set_option maxHeartbeats 4000000 in
theorem t_X11_gets_62 {Γ : gb_X} {sh : List gb_Sh} {out : gb_G × Int64} (hS : gb_S sh) {K31 : gb_G → Int32 → Int32 → Int32 → Option (gb_G × Int64)} (hK31 : ∀ (g : gb_G) (y1 : Int32) (y2 : Int32) (y3 : Int32), K31 g y1 y2 y3 = some out → gb_J Γ M_X11_gets 2 (gb_Rl sh out) 0 0 sh g 31 [(0, .ref 77), (1, .int y1), (2, .int y2), (3, .int y3)] []) : ∀ (g : gb_G) (y1 : Int32) (y2 : Int32) (y3 : Int32) (z0 : Int64) (z1 : Int32), f_X11_gets_62 sh K31 g y1 y2 y3 z0 z1 = some out → gb_J Γ M_X11_gets 2 (gb_Rl sh out) 0 0 sh g 62 [(0, .ref 77), (1, .int y1), (2, .int y2), (3, .int y3)] [.long z0, .int z1, .ref 101] := by
  intro g y1 y2 y3 z0 z1 h
  unfold f_X11_gets_62 at h
  obtain ⟨hi13, h⟩ := gb_ck_e h
  refine gb_last_ z1.toNatClampNeg rfl (hS 101 _ rfl) hi13 d_X11_gets_62 ?_
  have h := gb_let_e h
  generalize gb_pj g 101 z1.toNatClampNeg z0 = g14 at h ⊢
  refine gb_iinc (y3 + 1) [(3, .int (y3 + 1)), (0, .ref 77), (1, .int y1), (2, .int y2)] d_X11_gets_63 (Nat.le_of_ble_eq_true rfl) rfl rfl rfl ?_
  refine gb_goto 31 d_X11_gets_66 (by decide) ?_
  refine gb_pick (lv' := [(0, .ref 77), (1, .int y1), (2, .int y2), (3, .int (y3 + 1))]) [1, 2, 3, 0] rfl ?_
  exact hK31 _ y1 y2 (y3 + 1) h
set_option maxRecDepth 100000 in
set_option maxHeartbeats 4000000 in
theorem t_X11_gets_31 {Γ : gb_X} {sh : List gb_Sh} {out : gb_G × Int64} (hS : gb_S sh) : ∀ (n : Nat) (g : gb_G) (y1 : Int32) (y2 : Int32) (y3 : Int32), f_X11_gets_31 sh n g y1 y2 y3 = some out → gb_J Γ M_X11_gets 2 (gb_Rl sh out) 0 0 sh g 31 [(0, .ref 77), (1, .int y1), (2, .int y2), (3, .int y3)] [] := by
  intro n
  induction n with
  | zero => intro g y1 y2 y3 h; cases h
  | succ n ih =>
    intro g y1 y2 y3 h
    rw [f_X11_gets_31] at h
    refine gb_iload_n d_X11_gets_31 rfl ?_
    refine gb_bipush 14 d_X11_gets_32 rfl ?_
    refine gb_icmp_ge 69 d_X11_gets_34 (by decide) (fun hc => ?_) (fun hc => ?_)
    · have h := gb_it hc h
      refine gb_aload_n d_X11_gets_69 rfl ?_
      refine gb_getr (r := 79) f_X11_13 (hS 77 _ rfl) rfl d_X11_gets_70 ?_
      refine gb_bipush 6 d_X11_gets_73 rfl ?_
      refine gb_iald_ 6 rfl (hS 79 _ rfl) (by unfold vp_in; decide) d_X11_gets_75 ?_
      refine gb_istore_n [(3, .int (g.1 79 6)), (0, .ref 77), (1, .int y1), (2, .int y2)] d_X11_gets_76 (Nat.le_of_ble_eq_true rfl) rfl ?_
      refine gb_iconst 0 d_X11_gets_77 rfl ?_
      refine gb_istore [(4, .int 0), (3, .int (g.1 79 6)), (0, .ref 77), (1, .int y1), (2, .int y2)] d_X11_gets_78 (Nat.le_of_ble_eq_true rfl) rfl ?_
      refine gb_pick (lv' := [(0, .ref 77), (2, .int y2), (3, .int (g.1 79 6)), (4, .int 0)]) [2, 4, 1, 0] rfl ?_
      exact t_X11_gets_80 hS  gb_N _ y2 (g.1 79 6) 0 h
    · have h := gb_if hc h
      refine gb_aload_n d_X11_gets_37 rfl ?_
      refine gb_getr (r := 101) f_X11_119 (hS 77 _ rfl) rfl d_X11_gets_38 ?_
      refine gb_iload_n d_X11_gets_41 rfl ?_
      refine gb_iload_n d_X11_gets_42 rfl ?_
      refine gb_aload_n d_X11_gets_43 rfl ?_
      refine gb_getr (r := 79) f_X11_13 (hS 77 _ rfl) rfl d_X11_gets_44 ?_
      refine gb_bipush 8 d_X11_gets_47 rfl ?_
      refine gb_iload_n d_X11_gets_49 rfl ?_
      refine gb_iadd d_X11_gets_50 ?_
      obtain ⟨hi12, h⟩ := gb_ck_e h
      refine gb_iald_ ((8 + y1).toNatClampNeg) rfl (hS 79 _ rfl) hi12 d_X11_gets_51 ?_
      refine gb_icmp_ne 61 d_X11_gets_52 (by decide) (fun hc => ?_) (fun hc => ?_)
      · have h := gb_if hc h
        refine gb_lconst 0 d_X11_gets_61 rfl ?_
        exact t_X11_gets_62 hS (fun w w0 w1 w2 hw => ih w w0 w1 w2 hw) _ y1 y2 y3 0 y3 h
      · have h := gb_it hc h
        refine gb_ldc2 1000000000000 k_X11_494 d_X11_gets_55 ?_
        refine gb_goto 62 d_X11_gets_58 (by decide) ?_
        exact t_X11_gets_62 hS (fun w w0 w1 w2 hw => ih w w0 w1 w2 hw) _ y1 y2 y3 1000000000000 y3 h
set_option maxRecDepth 100000 in
set_option maxHeartbeats 4000000 in
theorem t_X11_gets {Γ : gb_X} {sh : List gb_Sh} {x1 : Int32} {x2 : Int32} {out : gb_G × Int64} (hS : gb_S sh) {g : gb_G} (h : f_X11_gets sh g x1 x2 = some out) : gb_C Γ M_X11_gets 2 0 0 sh g [.ref 77, .int x1, .int x2] (gb_Rl sh out) := by
  refine gb_C.of rfl (Nat.le_of_ble_eq_true rfl) ?_
  refine gb_pick (lv' := [(0, .ref 77), (1, .int x1), (2, .int x2)]) [0, 1, 2] rfl ?_
  unfold f_X11_gets at h
  refine gb_aload_n d_X11_gets_0 rfl ?_
  refine gb_iconst 0 d_X11_gets_1 rfl ?_
  refine gb_puti f_X11_145 (fun h => nomatch h) (hS 77 _ rfl) rfl rfl rfl d_X11_gets_2 ?_
  have h := gb_let_e h
  generalize gb_pi g 77 0 0 = g1 at h ⊢
  refine gb_aload_n d_X11_gets_5 rfl ?_
  refine gb_iload_n d_X11_gets_6 rfl ?_
  obtain ⟨r2, e3, h⟩ := gb_bd_e h
  refine gb_cVi (As := [.int x1]) (rest := []) m_X11_184 (t_X11_isGood (Γ := Γ) hS e3) (hS 77 _ rfl) rfl (Nat.le_of_ble_eq_true rfl) rfl rfl (Nat.le_of_ble_eq_true rfl) d_X11_gets_7 ?_
  refine gb_if_eq 25 d_X11_gets_10 (by decide) (fun hc => ?_) (fun hc => ?_)
  · have h := gb_it hc h
    refine gb_pick (lv' := []) [] rfl ?_
    exact t_X11_gets_25 hS  _  h
  · have h := gb_if hc h
    refine gb_iload_n d_X11_gets_13 rfl ?_
    refine gb_i2l d_X11_gets_14 ?_
    refine gb_lconst 0 d_X11_gets_15 rfl ?_
    refine gb_ldc2 60 k_X11_492 d_X11_gets_16 ?_
    obtain ⟨r4, e5, h⟩ := gb_bd_e h
    refine gb_cSi (As := [.long x2.toInt64, .long 0, .long 60]) (rest := []) m_X11_165 (t_X11_in (Γ := Γ) hS e5) (Nat.le_of_ble_eq_true rfl) rfl rfl (Nat.le_of_ble_eq_true rfl) d_X11_gets_19 ?_
    refine gb_if_ne 29 d_X11_gets_22 (by decide) (fun hc => ?_) (fun hc => ?_)
    · have h := gb_if hc h
      refine gb_iconst 0 d_X11_gets_29 rfl ?_
      refine gb_istore_n [(3, .int 0), (0, .ref 77), (1, .int x1), (2, .int x2)] d_X11_gets_30 (Nat.le_of_ble_eq_true rfl) rfl ?_
      refine gb_pick (lv' := [(0, .ref 77), (1, .int x1), (2, .int x2), (3, .int 0)]) [1, 2, 3, 0] rfl ?_
      exact t_X11_gets_31 hS  gb_N _ x1 x2 0 h
    · have h := gb_it hc h
      refine gb_pick (lv' := []) [] rfl ?_
      exact t_X11_gets_25 hS  _  h
-- X11_readSum
noncomputable def f_X11_readSum_22 (sh : List gb_Sh) (g : gb_G) (y1 : Int32) : Option (gb_G) := gb_ck (y1 + 1) 96 (gb_let (gb_pi g 103 ((y1 + 1).toNatClampNeg) (g.1 77 23)) (fun g4 => some g4))
noncomputable def f_X11_readSum (sh : List gb_Sh) (g : gb_G) (x1 : Int32) : Option (gb_G) := gb_ck x1 96 (gb_let (gb_pi g 103 x1.toNatClampNeg (g.1 77 23)) (fun g2 => if (g2.1 77 19) = 0 then (gb_bd (f_X11_readExpression sh g2 0) (fun r5 => f_X11_readSum_22 sh r5 x1)) else (f_X11_readSum_22 sh g2 x1)))
set_option maxRecDepth 100000 in
set_option maxHeartbeats 4000000 in
theorem t_X11_readSum_22 {Γ : gb_X} {sh : List gb_Sh} {out : gb_G} (hS : gb_S sh) : ∀ (g : gb_G) (y1 : Int32), f_X11_readSum_22 sh g y1 = some out → gb_J Γ M_X11_readSum 7 (gb_Rv sh out) 0 0 sh g 22 [(0, .ref 77), (1, .int y1)] [] := by
  intro g y1 h
  unfold f_X11_readSum_22 at h
  refine gb_aload_n d_X11_readSum_22 rfl ?_
  refine gb_getr (r := 103) f_X11_133 (hS 77 _ rfl) rfl d_X11_readSum_23 ?_
  refine gb_iload_n d_X11_readSum_26 rfl ?_
  refine gb_iconst 1 d_X11_readSum_27 rfl ?_
  refine gb_iadd d_X11_readSum_28 ?_
  refine gb_aload_n d_X11_readSum_29 rfl ?_
  refine gb_geti f_X11_261 (hS 77 _ rfl) rfl d_X11_readSum_30 ?_
  obtain ⟨hi3, h⟩ := gb_ck_e h
  refine gb_iast_ ((y1 + 1).toNatClampNeg) rfl (hS 103 _ rfl) hi3 d_X11_readSum_33 ?_
  have h := gb_let_e h
  generalize gb_pi g 103 ((y1 + 1).toNatClampNeg) (g.1 77 23) = g4 at h ⊢
  cases h
  exact gb_vret d_X11_readSum_34 rfl ⟨rfl, rfl, rfl⟩
set_option maxRecDepth 100000 in
set_option maxHeartbeats 4000000 in
theorem t_X11_readSum {Γ : gb_X} {sh : List gb_Sh} {x1 : Int32} {out : gb_G} (hS : gb_S sh) {g : gb_G} (h : f_X11_readSum sh g x1 = some out) : gb_C Γ M_X11_readSum 7 0 0 sh g [.ref 77, .int x1] (gb_Rv sh out) := by
  refine gb_C.of rfl (Nat.le_of_ble_eq_true rfl) ?_
  refine gb_pick (lv' := [(0, .ref 77), (1, .int x1)]) [0, 1] rfl ?_
  unfold f_X11_readSum at h
  refine gb_aload_n d_X11_readSum_0 rfl ?_
  refine gb_getr (r := 103) f_X11_133 (hS 77 _ rfl) rfl d_X11_readSum_1 ?_
  refine gb_iload_n d_X11_readSum_4 rfl ?_
  refine gb_aload_n d_X11_readSum_5 rfl ?_
  refine gb_geti f_X11_261 (hS 77 _ rfl) rfl d_X11_readSum_6 ?_
  obtain ⟨hi1, h⟩ := gb_ck_e h
  refine gb_iast_ x1.toNatClampNeg rfl (hS 103 _ rfl) hi1 d_X11_readSum_9 ?_
  have h := gb_let_e h
  generalize gb_pi g 103 x1.toNatClampNeg (g.1 77 23) = g2 at h ⊢
  refine gb_aload_n d_X11_readSum_10 rfl ?_
  refine gb_geti f_X11_224 (hS 77 _ rfl) rfl d_X11_readSum_11 ?_
  refine gb_if_ne 22 d_X11_readSum_14 (by decide) (fun hc => ?_) (fun hc => ?_)
  · have h := gb_if hc h
    exact t_X11_readSum_22 hS  _ x1 h
  · have h := gb_it hc h
    refine gb_aload_n d_X11_readSum_17 rfl ?_
    refine gb_iconst 0 d_X11_readSum_18 rfl ?_
    obtain ⟨r5, e6, h⟩ := gb_bd_e h
    refine gb_cVv (As := [.int 0]) (rest := []) m_X11_356 (t_X11_readExpression (Γ := Γ) hS e6) (hS 77 _ rfl) rfl (Nat.le_of_ble_eq_true rfl) rfl rfl (Nat.le_of_ble_eq_true rfl) d_X11_readSum_19 ?_
    exact t_X11_readSum_22 hS  _ x1 h
-- X11_readOrder
noncomputable def f_X11_readOrder_241 (sh : List gb_Sh) (g : gb_G) (y2 : Int32) : Option (gb_G) := gb_ck (y2 + 6) 96 (gb_let (gb_pi g 103 ((y2 + 6).toNatClampNeg) (g.1 77 23)) (fun g11 => some g11))
noncomputable def f_X11_readOrder_203 (sh : List gb_Sh) (g : gb_G) (y2 : Int32) : Option (gb_G) := gb_ck (y2 + 5) 96 (gb_let (gb_pi g 103 ((y2 + 5).toNatClampNeg) (g.1 77 23)) (fun g9 => if (g9.1 77 19) = 0 then (gb_bd (f_X11_isWord sh g9 294) (fun r12 => if r12.2 = 0 then (f_X11_readOrder_241 sh r12.1 y2) else (gb_bd (f_X11_next sh r12.1) (fun r14 => gb_bd (f_X11_readExpression sh r14 1) (fun r16 => f_X11_readOrder_241 sh r16 y2))))) else (f_X11_readOrder_241 sh g9 y2)))
noncomputable def f_X11_readOrder_155 (sh : List gb_Sh) (g : gb_G) (y2 : Int32) : Option (gb_G) := gb_ck (y2 + 7) 96 (gb_let (gb_pi g 103 ((y2 + 7).toNatClampNeg) 1) (fun g7 => if (g7.1 77 19) = 0 then (gb_bd (f_X11_isWord sh g7 21279923) (fun r18 => if r18.2 = 0 then (f_X11_readOrder_203 sh r18.1 y2) else (gb_bd (f_X11_next sh r18.1) (fun r20 => gb_bd (f_X11_number sh r20 1 20) (fun r22 => gb_ck (y2 + 7) 96 (gb_let (gb_pi r22.1 103 ((y2 + 7).toNatClampNeg) r22.2) (fun g25 => f_X11_readOrder_203 sh g25 y2))))))) else (f_X11_readOrder_203 sh g7 y2)))
noncomputable def f_X11_readOrder_148 (sh : List gb_Sh) (K155 : gb_G → Int32 → Option (gb_G)) (g : gb_G) (y2 : Int32) : Option (gb_G) := gb_bd (f_X11_readSum sh g (y2 + 3)) (fun r26 => K155 r26 y2)
noncomputable def f_X11_readOrder_125 (sh : List gb_Sh) (g : gb_G) (y1 : Int32) (y2 : Int32) : Option (gb_G) := if y1 = 2 then (if (g.1 77 19) = 0 then (gb_bd (f_X11_isWord sh g 89) (fun r28 => gb_bd (f_X11_must sh r28.1 r28.2) (fun r30 => f_X11_readOrder_148 sh (fun w w0 => f_X11_readOrder_155 sh w w0) r30 y2))) else (f_X11_readOrder_148 sh (fun w w0 => f_X11_readOrder_155 sh w w0) g y2)) else (f_X11_readOrder_155 sh g y2)
noncomputable def f_X11_readOrder_85 (sh : List gb_Sh) : Nat → gb_G → Int32 → Int32 → Int32 → Option (gb_G)
  | 0, _, _, _, _ => none
  | n + 1, g, y1, y2, y3 => if 8 ≤ y3 then (gb_ck y2 96 (gb_let (gb_pi g 103 y2.toNatClampNeg y1) (fun g5 => if y1 = 3 then (f_X11_readOrder_125 sh g5 y1 y2) else (gb_bd (f_X11_readSum sh g5 (y2 + 1)) (fun r32 => f_X11_readOrder_125 sh r32 y1 y2))))) else (gb_ck (y2 + y3) 96 (gb_let (gb_pi g 103 ((y2 + y3).toNatClampNeg) 0) (fun g35 => f_X11_readOrder_85 sh n g35 y1 y2 (y3 + 1))))
noncomputable def f_X11_readOrder_54 (sh : List gb_Sh) (g : gb_G) (y1 : Int32) (z0 : Int32) : Option (gb_G) := gb_bd (f_X11_must sh g z0) (fun r1 => if (r1.1 77 19) = 0 then (gb_let (gb_pi r1 77 21 ((r1.1 77 21) + 1)) (fun g3 => f_X11_readOrder_85 sh gb_N g3 y1 (8 * (r1.1 77 21)) 0)) else (some r1))
noncomputable def f_X11_readOrder_27 (sh : List gb_Sh) (K4 : gb_G → Int32 → Int32 → Option (gb_G)) (g : gb_G) (y2 : Int32) (z0 : Int32) : Option (gb_G) := K4 g z0 (y2 + 1)
noncomputable def f_X11_readOrder_4 (sh : List gb_Sh) : Nat → gb_G → Int32 → Int32 → Option (gb_G)
  | 0, _, _, _ => none
  | n + 1, g, y1, y2 => if 4 ≤ y2 then (if y1 = (-1) then (f_X11_readOrder_54 sh g y1 0) else (if 12 ≤ (g.1 77 21) then (f_X11_readOrder_54 sh g y1 0) else (f_X11_readOrder_54 sh g y1 1))) else (gb_ck y2 4 (gb_bd (f_X11_isWord sh g (g.2.1 102 y2.toNatClampNeg)) (fun r37 => if r37.2 = 0 then (f_X11_readOrder_27 sh (fun w w0 w1 => f_X11_readOrder_4 sh n w w0 w1) r37.1 y2 y1) else (f_X11_readOrder_27 sh (fun w w0 w1 => f_X11_readOrder_4 sh n w w0 w1) r37.1 y2 y2))))
noncomputable def f_X11_readOrder (sh : List gb_Sh) (g : gb_G) : Option (gb_G) := f_X11_readOrder_4 sh gb_N g (-1) 0
set_option maxRecDepth 100000 in
set_option maxHeartbeats 4000000 in
theorem t_X11_readOrder_241 {Γ : gb_X} {sh : List gb_Sh} {out : gb_G} (hS : gb_S sh) : ∀ (g : gb_G) (y2 : Int32), f_X11_readOrder_241 sh g y2 = some out → gb_J Γ M_X11_readOrder 8 (gb_Rv sh out) 0 0 sh g 241 [(0, .ref 77), (2, .int y2)] [] := by
  intro g y2 h
  unfold f_X11_readOrder_241 at h
  refine gb_aload_n d_X11_readOrder_241 rfl ?_
  refine gb_getr (r := 103) f_X11_133 (hS 77 _ rfl) rfl d_X11_readOrder_242 ?_
  refine gb_iload_n d_X11_readOrder_245 rfl ?_
  refine gb_bipush 6 d_X11_readOrder_246 rfl ?_
  refine gb_iadd d_X11_readOrder_248 ?_
  refine gb_aload_n d_X11_readOrder_249 rfl ?_
  refine gb_geti f_X11_261 (hS 77 _ rfl) rfl d_X11_readOrder_250 ?_
  obtain ⟨hi10, h⟩ := gb_ck_e h
  refine gb_iast_ ((y2 + 6).toNatClampNeg) rfl (hS 103 _ rfl) hi10 d_X11_readOrder_253 ?_
  have h := gb_let_e h
  generalize gb_pi g 103 ((y2 + 6).toNatClampNeg) (g.1 77 23) = g11 at h ⊢
  cases h
  exact gb_vret d_X11_readOrder_254 rfl ⟨rfl, rfl, rfl⟩
set_option maxRecDepth 100000 in
set_option maxHeartbeats 4000000 in
theorem t_X11_readOrder_203 {Γ : gb_X} {sh : List gb_Sh} {out : gb_G} (hS : gb_S sh) : ∀ (g : gb_G) (y2 : Int32), f_X11_readOrder_203 sh g y2 = some out → gb_J Γ M_X11_readOrder 8 (gb_Rv sh out) 0 0 sh g 203 [(0, .ref 77), (2, .int y2)] [] := by
  intro g y2 h
  unfold f_X11_readOrder_203 at h
  refine gb_aload_n d_X11_readOrder_203 rfl ?_
  refine gb_getr (r := 103) f_X11_133 (hS 77 _ rfl) rfl d_X11_readOrder_204 ?_
  refine gb_iload_n d_X11_readOrder_207 rfl ?_
  refine gb_iconst 5 d_X11_readOrder_208 rfl ?_
  refine gb_iadd d_X11_readOrder_209 ?_
  refine gb_aload_n d_X11_readOrder_210 rfl ?_
  refine gb_geti f_X11_261 (hS 77 _ rfl) rfl d_X11_readOrder_211 ?_
  obtain ⟨hi8, h⟩ := gb_ck_e h
  refine gb_iast_ ((y2 + 5).toNatClampNeg) rfl (hS 103 _ rfl) hi8 d_X11_readOrder_214 ?_
  have h := gb_let_e h
  generalize gb_pi g 103 ((y2 + 5).toNatClampNeg) (g.1 77 23) = g9 at h ⊢
  refine gb_aload_n d_X11_readOrder_215 rfl ?_
  refine gb_geti f_X11_224 (hS 77 _ rfl) rfl d_X11_readOrder_216 ?_
  refine gb_if_ne 241 d_X11_readOrder_219 (by decide) (fun hc => ?_) (fun hc => ?_)
  · have h := gb_if hc h
    exact t_X11_readOrder_241 hS  _ y2 h
  · have h := gb_it hc h
    refine gb_aload_n d_X11_readOrder_222 rfl ?_
    refine gb_ldc2 294 k_X11_359 d_X11_readOrder_223 ?_
    obtain ⟨r12, e13, h⟩ := gb_bd_e h
    refine gb_cVi (As := [.long 294]) (rest := []) m_X11_280 (t_X11_isWord (Γ := Γ) hS e13) (hS 77 _ rfl) rfl (Nat.le_of_ble_eq_true rfl) rfl rfl (Nat.le_of_ble_eq_true rfl) d_X11_readOrder_226 ?_
    refine gb_if_eq 241 d_X11_readOrder_229 (by decide) (fun hc => ?_) (fun hc => ?_)
    · have h := gb_it hc h
      exact t_X11_readOrder_241 hS  _ y2 h
    · have h := gb_if hc h
      refine gb_aload_n d_X11_readOrder_232 rfl ?_
      obtain ⟨r14, e15, h⟩ := gb_bd_e h
      refine gb_cVv (As := []) (rest := []) m_X11_228 (t_X11_next (Γ := Γ) hS e15) (hS 77 _ rfl) rfl (Nat.le_of_ble_eq_true rfl) rfl rfl (Nat.le_of_ble_eq_true rfl) d_X11_readOrder_233 ?_
      refine gb_aload_n d_X11_readOrder_236 rfl ?_
      refine gb_iconst 1 d_X11_readOrder_237 rfl ?_
      obtain ⟨r16, e17, h⟩ := gb_bd_e h
      refine gb_cVv (As := [.int 1]) (rest := []) m_X11_356 (t_X11_readExpression (Γ := Γ) hS e17) (hS 77 _ rfl) rfl (Nat.le_of_ble_eq_true rfl) rfl rfl (Nat.le_of_ble_eq_true rfl) d_X11_readOrder_238 ?_
      exact t_X11_readOrder_241 hS  _ y2 h
set_option maxRecDepth 100000 in
set_option maxHeartbeats 4000000 in
theorem t_X11_readOrder_155 {Γ : gb_X} {sh : List gb_Sh} {out : gb_G} (hS : gb_S sh) : ∀ (g : gb_G) (y2 : Int32), f_X11_readOrder_155 sh g y2 = some out → gb_J Γ M_X11_readOrder 8 (gb_Rv sh out) 0 0 sh g 155 [(0, .ref 77), (2, .int y2)] [] := by
  intro g y2 h
  unfold f_X11_readOrder_155 at h
  refine gb_aload_n d_X11_readOrder_155 rfl ?_
  refine gb_getr (r := 103) f_X11_133 (hS 77 _ rfl) rfl d_X11_readOrder_156 ?_
  refine gb_iload_n d_X11_readOrder_159 rfl ?_
  refine gb_bipush 7 d_X11_readOrder_160 rfl ?_
  refine gb_iadd d_X11_readOrder_162 ?_
  refine gb_iconst 1 d_X11_readOrder_163 rfl ?_
  obtain ⟨hi6, h⟩ := gb_ck_e h
  refine gb_iast_ ((y2 + 7).toNatClampNeg) rfl (hS 103 _ rfl) hi6 d_X11_readOrder_164 ?_
  have h := gb_let_e h
  generalize gb_pi g 103 ((y2 + 7).toNatClampNeg) 1 = g7 at h ⊢
  refine gb_aload_n d_X11_readOrder_165 rfl ?_
  refine gb_geti f_X11_224 (hS 77 _ rfl) rfl d_X11_readOrder_166 ?_
  refine gb_if_ne 203 d_X11_readOrder_169 (by decide) (fun hc => ?_) (fun hc => ?_)
  · have h := gb_if hc h
    exact t_X11_readOrder_203 hS  _ y2 h
  · have h := gb_it hc h
    refine gb_aload_n d_X11_readOrder_172 rfl ?_
    refine gb_ldc2 21279923 k_X11_501 d_X11_readOrder_173 ?_
    obtain ⟨r18, e19, h⟩ := gb_bd_e h
    refine gb_cVi (As := [.long 21279923]) (rest := []) m_X11_280 (t_X11_isWord (Γ := Γ) hS e19) (hS 77 _ rfl) rfl (Nat.le_of_ble_eq_true rfl) rfl rfl (Nat.le_of_ble_eq_true rfl) d_X11_readOrder_176 ?_
    refine gb_if_eq 203 d_X11_readOrder_179 (by decide) (fun hc => ?_) (fun hc => ?_)
    · have h := gb_it hc h
      exact t_X11_readOrder_203 hS  _ y2 h
    · have h := gb_if hc h
      refine gb_aload_n d_X11_readOrder_182 rfl ?_
      obtain ⟨r20, e21, h⟩ := gb_bd_e h
      refine gb_cVv (As := []) (rest := []) m_X11_228 (t_X11_next (Γ := Γ) hS e21) (hS 77 _ rfl) rfl (Nat.le_of_ble_eq_true rfl) rfl rfl (Nat.le_of_ble_eq_true rfl) d_X11_readOrder_183 ?_
      refine gb_aload_n d_X11_readOrder_186 rfl ?_
      refine gb_getr (r := 103) f_X11_133 (hS 77 _ rfl) rfl d_X11_readOrder_187 ?_
      refine gb_iload_n d_X11_readOrder_190 rfl ?_
      refine gb_bipush 7 d_X11_readOrder_191 rfl ?_
      refine gb_iadd d_X11_readOrder_193 ?_
      refine gb_aload_n d_X11_readOrder_194 rfl ?_
      refine gb_lconst 1 d_X11_readOrder_195 rfl ?_
      refine gb_ldc2 20 k_X11_274 d_X11_readOrder_196 ?_
      obtain ⟨r22, e23, h⟩ := gb_bd_e h
      refine gb_cVi (As := [.long 1, .long 20]) (rest := [.int (y2 + 7), .ref 103]) m_X11_317 (t_X11_number (Γ := Γ) hS e23) (hS 77 _ rfl) rfl (Nat.le_of_ble_eq_true rfl) rfl rfl (Nat.le_of_ble_eq_true rfl) d_X11_readOrder_199 ?_
      obtain ⟨hi24, h⟩ := gb_ck_e h
      refine gb_iast_ ((y2 + 7).toNatClampNeg) rfl (hS 103 _ rfl) hi24 d_X11_readOrder_202 ?_
      have h := gb_let_e h
      generalize gb_pi r22.1 103 ((y2 + 7).toNatClampNeg) r22.2 = g25 at h ⊢
      exact t_X11_readOrder_203 hS  _ y2 h
set_option maxRecDepth 100000 in
set_option maxHeartbeats 4000000 in
theorem t_X11_readOrder_148 {Γ : gb_X} {sh : List gb_Sh} {out : gb_G} (hS : gb_S sh) {K155 : gb_G → Int32 → Option (gb_G)} (hK155 : ∀ (g : gb_G) (y2 : Int32), K155 g y2 = some out → gb_J Γ M_X11_readOrder 8 (gb_Rv sh out) 0 0 sh g 155 [(0, .ref 77), (2, .int y2)] []) : ∀ (g : gb_G) (y2 : Int32), f_X11_readOrder_148 sh K155 g y2 = some out → gb_J Γ M_X11_readOrder 8 (gb_Rv sh out) 0 0 sh g 148 [(0, .ref 77), (2, .int y2)] [] := by
  intro g y2 h
  unfold f_X11_readOrder_148 at h
  refine gb_aload_n d_X11_readOrder_148 rfl ?_
  refine gb_iload_n d_X11_readOrder_149 rfl ?_
  refine gb_iconst 3 d_X11_readOrder_150 rfl ?_
  refine gb_iadd d_X11_readOrder_151 ?_
  obtain ⟨r26, e27, h⟩ := gb_bd_e h
  refine gb_cVv (As := [.int (y2 + 3)]) (rest := []) m_X11_496 (t_X11_readSum (Γ := Γ) hS e27) (hS 77 _ rfl) rfl (Nat.le_of_ble_eq_true rfl) rfl rfl (Nat.le_of_ble_eq_true rfl) d_X11_readOrder_152 ?_
  exact hK155 _ y2 h
set_option maxRecDepth 100000 in
set_option maxHeartbeats 4000000 in
theorem t_X11_readOrder_125 {Γ : gb_X} {sh : List gb_Sh} {out : gb_G} (hS : gb_S sh) : ∀ (g : gb_G) (y1 : Int32) (y2 : Int32), f_X11_readOrder_125 sh g y1 y2 = some out → gb_J Γ M_X11_readOrder 8 (gb_Rv sh out) 0 0 sh g 125 [(0, .ref 77), (1, .int y1), (2, .int y2)] [] := by
  intro g y1 y2 h
  unfold f_X11_readOrder_125 at h
  refine gb_iload_n d_X11_readOrder_125 rfl ?_
  refine gb_iconst 2 d_X11_readOrder_126 rfl ?_
  refine gb_icmp_ne 155 d_X11_readOrder_127 (by decide) (fun hc => ?_) (fun hc => ?_)
  · have h := gb_if hc h
    refine gb_pick (lv' := [(0, .ref 77), (2, .int y2)]) [0, 2] rfl ?_
    exact t_X11_readOrder_155 hS  _ y2 h
  · have h := gb_it hc h
    refine gb_aload_n d_X11_readOrder_130 rfl ?_
    refine gb_geti f_X11_224 (hS 77 _ rfl) rfl d_X11_readOrder_131 ?_
    refine gb_if_ne 148 d_X11_readOrder_134 (by decide) (fun hc => ?_) (fun hc => ?_)
    · have h := gb_if hc h
      refine gb_pick (lv' := [(0, .ref 77), (2, .int y2)]) [0, 2] rfl ?_
      exact t_X11_readOrder_148 hS (fun w w0 hw => t_X11_readOrder_155 hS  w w0 hw) _ y2 h
    · have h := gb_it hc h
      refine gb_aload_n d_X11_readOrder_137 rfl ?_
      refine gb_aload_n d_X11_readOrder_138 rfl ?_
      refine gb_ldc2 89 k_X11_499 d_X11_readOrder_139 ?_
      obtain ⟨r28, e29, h⟩ := gb_bd_e h
      refine gb_cVi (As := [.long 89]) (rest := [.ref 77]) m_X11_280 (t_X11_isWord (Γ := Γ) hS e29) (hS 77 _ rfl) rfl (Nat.le_of_ble_eq_true rfl) rfl rfl (Nat.le_of_ble_eq_true rfl) d_X11_readOrder_142 ?_
      obtain ⟨r30, e31, h⟩ := gb_bd_e h
      refine gb_cVv (As := [.int r28.2]) (rest := []) m_X11_257 (t_X11_must (Γ := Γ) hS e31) (hS 77 _ rfl) rfl (Nat.le_of_ble_eq_true rfl) rfl rfl (Nat.le_of_ble_eq_true rfl) d_X11_readOrder_145 ?_
      refine gb_pick (lv' := [(0, .ref 77), (2, .int y2)]) [0, 2] rfl ?_
      exact t_X11_readOrder_148 hS (fun w w0 hw => t_X11_readOrder_155 hS  w w0 hw) _ y2 h
set_option maxRecDepth 100000 in
set_option maxHeartbeats 4000000 in
theorem t_X11_readOrder_85 {Γ : gb_X} {sh : List gb_Sh} {out : gb_G} (hS : gb_S sh) : ∀ (n : Nat) (g : gb_G) (y1 : Int32) (y2 : Int32) (y3 : Int32), f_X11_readOrder_85 sh n g y1 y2 y3 = some out → gb_J Γ M_X11_readOrder 8 (gb_Rv sh out) 0 0 sh g 85 [(0, .ref 77), (1, .int y1), (2, .int y2), (3, .int y3)] [] := by
  intro n
  induction n with
  | zero => intro g y1 y2 y3 h; cases h
  | succ n ih =>
    intro g y1 y2 y3 h
    rw [f_X11_readOrder_85] at h
    refine gb_iload_n d_X11_readOrder_85 rfl ?_
    refine gb_bipush 8 d_X11_readOrder_86 rfl ?_
    refine gb_icmp_ge 106 d_X11_readOrder_88 (by decide) (fun hc => ?_) (fun hc => ?_)
    · have h := gb_it hc h
      refine gb_aload_n d_X11_readOrder_106 rfl ?_
      refine gb_getr (r := 103) f_X11_133 (hS 77 _ rfl) rfl d_X11_readOrder_107 ?_
      refine gb_iload_n d_X11_readOrder_110 rfl ?_
      refine gb_iload_n d_X11_readOrder_111 rfl ?_
      obtain ⟨hi4, h⟩ := gb_ck_e h
      refine gb_iast_ y2.toNatClampNeg rfl (hS 103 _ rfl) hi4 d_X11_readOrder_112 ?_
      have h := gb_let_e h
      generalize gb_pi g 103 y2.toNatClampNeg y1 = g5 at h ⊢
      refine gb_iload_n d_X11_readOrder_113 rfl ?_
      refine gb_iconst 3 d_X11_readOrder_114 rfl ?_
      refine gb_icmp_eq 125 d_X11_readOrder_115 (by decide) (fun hc => ?_) (fun hc => ?_)
      · have h := gb_it hc h
        refine gb_pick (lv' := [(0, .ref 77), (1, .int y1), (2, .int y2)]) [0, 1, 2] rfl ?_
        exact t_X11_readOrder_125 hS  _ y1 y2 h
      · have h := gb_if hc h
        refine gb_aload_n d_X11_readOrder_118 rfl ?_
        refine gb_iload_n d_X11_readOrder_119 rfl ?_
        refine gb_iconst 1 d_X11_readOrder_120 rfl ?_
        refine gb_iadd d_X11_readOrder_121 ?_
        obtain ⟨r32, e33, h⟩ := gb_bd_e h
        refine gb_cVv (As := [.int (y2 + 1)]) (rest := []) m_X11_496 (t_X11_readSum (Γ := Γ) hS e33) (hS 77 _ rfl) rfl (Nat.le_of_ble_eq_true rfl) rfl rfl (Nat.le_of_ble_eq_true rfl) d_X11_readOrder_122 ?_
        refine gb_pick (lv' := [(0, .ref 77), (1, .int y1), (2, .int y2)]) [0, 1, 2] rfl ?_
        exact t_X11_readOrder_125 hS  _ y1 y2 h
    · have h := gb_if hc h
      refine gb_aload_n d_X11_readOrder_91 rfl ?_
      refine gb_getr (r := 103) f_X11_133 (hS 77 _ rfl) rfl d_X11_readOrder_92 ?_
      refine gb_iload_n d_X11_readOrder_95 rfl ?_
      refine gb_iload_n d_X11_readOrder_96 rfl ?_
      refine gb_iadd d_X11_readOrder_97 ?_
      refine gb_iconst 0 d_X11_readOrder_98 rfl ?_
      obtain ⟨hi34, h⟩ := gb_ck_e h
      refine gb_iast_ ((y2 + y3).toNatClampNeg) rfl (hS 103 _ rfl) hi34 d_X11_readOrder_99 ?_
      have h := gb_let_e h
      generalize gb_pi g 103 ((y2 + y3).toNatClampNeg) 0 = g35 at h ⊢
      refine gb_iinc (y3 + 1) [(3, .int (y3 + 1)), (0, .ref 77), (1, .int y1), (2, .int y2)] d_X11_readOrder_100 (Nat.le_of_ble_eq_true rfl) rfl rfl rfl ?_
      refine gb_goto 85 d_X11_readOrder_103 (by decide) ?_
      refine gb_pick (lv' := [(0, .ref 77), (1, .int y1), (2, .int y2), (3, .int (y3 + 1))]) [1, 2, 3, 0] rfl ?_
      exact ih _ y1 y2 (y3 + 1) h
set_option maxRecDepth 100000 in
set_option maxHeartbeats 4000000 in
theorem t_X11_readOrder_54 {Γ : gb_X} {sh : List gb_Sh} {out : gb_G} (hS : gb_S sh) : ∀ (g : gb_G) (y1 : Int32) (z0 : Int32), f_X11_readOrder_54 sh g y1 z0 = some out → gb_J Γ M_X11_readOrder 8 (gb_Rv sh out) 0 0 sh g 54 [(0, .ref 77), (1, .int y1)] [.int z0, .ref 77] := by
  intro g y1 z0 h
  unfold f_X11_readOrder_54 at h
  obtain ⟨r1, e2, h⟩ := gb_bd_e h
  refine gb_cVv (As := [.int z0]) (rest := []) m_X11_257 (t_X11_must (Γ := Γ) hS e2) (hS 77 _ rfl) rfl (Nat.le_of_ble_eq_true rfl) rfl rfl (Nat.le_of_ble_eq_true rfl) d_X11_readOrder_54 ?_
  refine gb_aload_n d_X11_readOrder_57 rfl ?_
  refine gb_geti f_X11_224 (hS 77 _ rfl) rfl d_X11_readOrder_58 ?_
  refine gb_if_eq 65 d_X11_readOrder_61 (by decide) (fun hc => ?_) (fun hc => ?_)
  · have h := gb_it hc h
    refine gb_bipush 8 d_X11_readOrder_65 rfl ?_
    refine gb_aload_n d_X11_readOrder_67 rfl ?_
    refine gb_geti f_X11_353 (hS 77 _ rfl) rfl d_X11_readOrder_68 ?_
    refine gb_imul d_X11_readOrder_71 ?_
    refine gb_istore_n [(2, .int (8 * (r1.1 77 21))), (0, .ref 77), (1, .int y1)] d_X11_readOrder_72 (Nat.le_of_ble_eq_true rfl) rfl ?_
    refine gb_aload_n d_X11_readOrder_73 rfl ?_
    refine gb_dup d_X11_readOrder_74 rfl ?_
    refine gb_geti f_X11_353 (hS 77 _ rfl) rfl d_X11_readOrder_75 ?_
    refine gb_iconst 1 d_X11_readOrder_78 rfl ?_
    refine gb_iadd d_X11_readOrder_79 ?_
    refine gb_puti f_X11_353 (fun h => nomatch h) (hS 77 _ rfl) rfl rfl rfl d_X11_readOrder_80 ?_
    have h := gb_let_e h
    generalize gb_pi r1 77 21 ((r1.1 77 21) + 1) = g3 at h ⊢
    refine gb_iconst 0 d_X11_readOrder_83 rfl ?_
    refine gb_istore_n [(3, .int 0), (2, .int (8 * (r1.1 77 21))), (0, .ref 77), (1, .int y1)] d_X11_readOrder_84 (Nat.le_of_ble_eq_true rfl) rfl ?_
    refine gb_pick (lv' := [(0, .ref 77), (1, .int y1), (2, .int (8 * (r1.1 77 21))), (3, .int 0)]) [2, 3, 1, 0] rfl ?_
    exact t_X11_readOrder_85 hS  gb_N _ y1 (8 * (r1.1 77 21)) 0 h
  · have h := gb_if hc h
    cases h
    exact gb_vret d_X11_readOrder_64 rfl ⟨rfl, rfl, rfl⟩
set_option maxRecDepth 100000 in
set_option maxHeartbeats 4000000 in
theorem t_X11_readOrder_27 {Γ : gb_X} {sh : List gb_Sh} {out : gb_G} (hS : gb_S sh) {K4 : gb_G → Int32 → Int32 → Option (gb_G)} (hK4 : ∀ (g : gb_G) (y1 : Int32) (y2 : Int32), K4 g y1 y2 = some out → gb_J Γ M_X11_readOrder 8 (gb_Rv sh out) 0 0 sh g 4 [(0, .ref 77), (1, .int y1), (2, .int y2)] []) : ∀ (g : gb_G) (y2 : Int32) (z0 : Int32), f_X11_readOrder_27 sh K4 g y2 z0 = some out → gb_J Γ M_X11_readOrder 8 (gb_Rv sh out) 0 0 sh g 27 [(0, .ref 77), (2, .int y2)] [.int z0] := by
  intro g y2 z0 h
  unfold f_X11_readOrder_27 at h
  refine gb_istore_n [(1, .int z0), (0, .ref 77), (2, .int y2)] d_X11_readOrder_27 (Nat.le_of_ble_eq_true rfl) rfl ?_
  refine gb_iinc (y2 + 1) [(2, .int (y2 + 1)), (1, .int z0), (0, .ref 77)] d_X11_readOrder_28 (Nat.le_of_ble_eq_true rfl) rfl rfl rfl ?_
  refine gb_goto 4 d_X11_readOrder_31 (by decide) ?_
  refine gb_pick (lv' := [(0, .ref 77), (1, .int z0), (2, .int (y2 + 1))]) [2, 1, 0] rfl ?_
  exact hK4 _ z0 (y2 + 1) h
set_option maxRecDepth 100000 in
set_option maxHeartbeats 4000000 in
theorem t_X11_readOrder_4 {Γ : gb_X} {sh : List gb_Sh} {out : gb_G} (hS : gb_S sh) : ∀ (n : Nat) (g : gb_G) (y1 : Int32) (y2 : Int32), f_X11_readOrder_4 sh n g y1 y2 = some out → gb_J Γ M_X11_readOrder 8 (gb_Rv sh out) 0 0 sh g 4 [(0, .ref 77), (1, .int y1), (2, .int y2)] [] := by
  intro n
  induction n with
  | zero => intro g y1 y2 h; cases h
  | succ n ih =>
    intro g y1 y2 h
    rw [f_X11_readOrder_4] at h
    refine gb_iload_n d_X11_readOrder_4 rfl ?_
    refine gb_iconst 4 d_X11_readOrder_5 rfl ?_
    refine gb_icmp_ge 34 d_X11_readOrder_6 (by decide) (fun hc => ?_) (fun hc => ?_)
    · have h := gb_it hc h
      refine gb_aload_n d_X11_readOrder_34 rfl ?_
      refine gb_iload_n d_X11_readOrder_35 rfl ?_
      refine gb_iconst (-1) d_X11_readOrder_36 rfl ?_
      refine gb_icmp_eq 53 d_X11_readOrder_37 (by decide) (fun hc => ?_) (fun hc => ?_)
      · have h := gb_it hc h
        refine gb_iconst 0 d_X11_readOrder_53 rfl ?_
        refine gb_pick (lv' := [(0, .ref 77), (1, .int y1)]) [0, 1] rfl ?_
        exact t_X11_readOrder_54 hS  _ y1 0 h
      · have h := gb_if hc h
        refine gb_aload_n d_X11_readOrder_40 rfl ?_
        refine gb_geti f_X11_353 (hS 77 _ rfl) rfl d_X11_readOrder_41 ?_
        refine gb_bipush 12 d_X11_readOrder_44 rfl ?_
        refine gb_icmp_ge 53 d_X11_readOrder_46 (by decide) (fun hc => ?_) (fun hc => ?_)
        · have h := gb_it hc h
          refine gb_iconst 0 d_X11_readOrder_53 rfl ?_
          refine gb_pick (lv' := [(0, .ref 77), (1, .int y1)]) [0, 1] rfl ?_
          exact t_X11_readOrder_54 hS  _ y1 0 h
        · have h := gb_if hc h
          refine gb_iconst 1 d_X11_readOrder_49 rfl ?_
          refine gb_goto 54 d_X11_readOrder_50 (by decide) ?_
          refine gb_pick (lv' := [(0, .ref 77), (1, .int y1)]) [0, 1] rfl ?_
          exact t_X11_readOrder_54 hS  _ y1 1 h
    · have h := gb_if hc h
      refine gb_aload_n d_X11_readOrder_9 rfl ?_
      refine gb_aload_n d_X11_readOrder_10 rfl ?_
      refine gb_getr (r := 102) f_X11_130 (hS 77 _ rfl) rfl d_X11_readOrder_11 ?_
      refine gb_iload_n d_X11_readOrder_14 rfl ?_
      obtain ⟨hi36, h⟩ := gb_ck_e h
      refine gb_lald_ y2.toNatClampNeg rfl (hS 102 _ rfl) hi36 d_X11_readOrder_15 ?_
      obtain ⟨r37, e38, h⟩ := gb_bd_e h
      refine gb_cVi (As := [.long (g.2.1 102 y2.toNatClampNeg)]) (rest := []) m_X11_280 (t_X11_isWord (Γ := Γ) hS e38) (hS 77 _ rfl) rfl (Nat.le_of_ble_eq_true rfl) rfl rfl (Nat.le_of_ble_eq_true rfl) d_X11_readOrder_16 ?_
      refine gb_if_eq 26 d_X11_readOrder_19 (by decide) (fun hc => ?_) (fun hc => ?_)
      · have h := gb_it hc h
        refine gb_iload_n d_X11_readOrder_26 rfl ?_
        refine gb_pick (lv' := [(0, .ref 77), (2, .int y2)]) [0, 2] rfl ?_
        exact t_X11_readOrder_27 hS (fun w w0 w1 hw => ih w w0 w1 hw) _ y2 y1 h
      · have h := gb_if hc h
        refine gb_iload_n d_X11_readOrder_22 rfl ?_
        refine gb_goto 27 d_X11_readOrder_23 (by decide) ?_
        refine gb_pick (lv' := [(0, .ref 77), (2, .int y2)]) [0, 2] rfl ?_
        exact t_X11_readOrder_27 hS (fun w w0 w1 hw => ih w w0 w1 hw) _ y2 y2 h
set_option maxRecDepth 100000 in
set_option maxHeartbeats 4000000 in
theorem t_X11_readOrder {Γ : gb_X} {sh : List gb_Sh} {out : gb_G} (hS : gb_S sh) {g : gb_G} (h : f_X11_readOrder sh g = some out) : gb_C Γ M_X11_readOrder 8 0 0 sh g [.ref 77] (gb_Rv sh out) := by
  refine gb_C.of rfl (Nat.le_of_ble_eq_true rfl) ?_
  refine gb_pick (lv' := [(0, .ref 77)]) [0] rfl ?_
  unfold f_X11_readOrder at h
  refine gb_iconst (-1) d_X11_readOrder_0 rfl ?_
  refine gb_istore_n [(1, .int (-1)), (0, .ref 77)] d_X11_readOrder_1 (Nat.le_of_ble_eq_true rfl) rfl ?_
  refine gb_iconst 0 d_X11_readOrder_2 rfl ?_
  refine gb_istore_n [(2, .int 0), (1, .int (-1)), (0, .ref 77)] d_X11_readOrder_3 (Nat.le_of_ble_eq_true rfl) rfl ?_
  refine gb_pick (lv' := [(0, .ref 77), (1, .int (-1)), (2, .int 0)]) [2, 1, 0] rfl ?_
  exact t_X11_readOrder_4 hS  gb_N _ (-1) 0 h
-- X11_sumOf
noncomputable def f_X11_sumOf (sh : List gb_Sh) (g : gb_G) (x1 : Int32) : Option (gb_G × Int32) := if (g.1 77 52) = 0 then (gb_ck x1 96 (gb_ck (x1 + 1) 96 (if (g.1 103 x1.toNatClampNeg) = (g.1 103 ((x1 + 1).toNatClampNeg)) then (some (g, (-1))) else (gb_let (gb_pi g 77 20 1) (fun g3 => gb_ck x1 96 (gb_ck (x1 + 1) 96 (gb_bd (f_X11_reckonAll sh g3 (g3.1 103 x1.toNatClampNeg) (g3.1 103 ((x1 + 1).toNatClampNeg))) (fun r6 => gb_let (gb_pi r6 77 20 0) (fun g8 => gb_bo (g8.1 77 38) (gb_let (gb_pi g8 77 52 (g8.1 77 38)) (fun g9 => some (g9, (g9.2.1 77 39).toInt32)))))))))))) else (some (g, (-1)))
set_option maxRecDepth 100000 in
set_option maxHeartbeats 4000000 in
theorem t_X11_sumOf {Γ : gb_X} {sh : List gb_Sh} {x1 : Int32} {out : gb_G × Int32} (hS : gb_S sh) {g : gb_G} (h : f_X11_sumOf sh g x1 = some out) : gb_C Γ M_X11_sumOf 3 0 0 sh g [.ref 77, .int x1] (gb_Ri sh out) := by
  refine gb_C.of rfl (Nat.le_of_ble_eq_true rfl) ?_
  refine gb_pick (lv' := [(0, .ref 77), (1, .int x1)]) [0, 1] rfl ?_
  unfold f_X11_sumOf at h
  refine gb_aload_n d_X11_sumOf_0 rfl ?_
  refine gb_geti f_X11_503 (hS 77 _ rfl) rfl d_X11_sumOf_1 ?_
  refine gb_if_ne 24 d_X11_sumOf_4 (by decide) (fun hc => ?_) (fun hc => ?_)
  · have h := gb_if hc h
    refine gb_iconst (-1) d_X11_sumOf_24 rfl ?_
    cases h
    exact gb_iret d_X11_sumOf_25 rfl ⟨rfl, rfl, rfl⟩
  · have h := gb_it hc h
    refine gb_aload_n d_X11_sumOf_7 rfl ?_
    refine gb_getr (r := 103) f_X11_133 (hS 77 _ rfl) rfl d_X11_sumOf_8 ?_
    refine gb_iload_n d_X11_sumOf_11 rfl ?_
    obtain ⟨hi1, h⟩ := gb_ck_e h
    refine gb_iald_ x1.toNatClampNeg rfl (hS 103 _ rfl) hi1 d_X11_sumOf_12 ?_
    refine gb_aload_n d_X11_sumOf_13 rfl ?_
    refine gb_getr (r := 103) f_X11_133 (hS 77 _ rfl) rfl d_X11_sumOf_14 ?_
    refine gb_iload_n d_X11_sumOf_17 rfl ?_
    refine gb_iconst 1 d_X11_sumOf_18 rfl ?_
    refine gb_iadd d_X11_sumOf_19 ?_
    obtain ⟨hi2, h⟩ := gb_ck_e h
    refine gb_iald_ ((x1 + 1).toNatClampNeg) rfl (hS 103 _ rfl) hi2 d_X11_sumOf_20 ?_
    refine gb_icmp_ne 26 d_X11_sumOf_21 (by decide) (fun hc => ?_) (fun hc => ?_)
    · have h := gb_if hc h
      refine gb_aload_n d_X11_sumOf_26 rfl ?_
      refine gb_iconst 1 d_X11_sumOf_27 rfl ?_
      refine gb_puti f_X11_299 (fun h => nomatch h) (hS 77 _ rfl) rfl rfl rfl d_X11_sumOf_28 ?_
      have h := gb_let_e h
      generalize gb_pi g 77 20 1 = g3 at h ⊢
      refine gb_aload_n d_X11_sumOf_31 rfl ?_
      refine gb_aload_n d_X11_sumOf_32 rfl ?_
      refine gb_getr (r := 103) f_X11_133 (hS 77 _ rfl) rfl d_X11_sumOf_33 ?_
      refine gb_iload_n d_X11_sumOf_36 rfl ?_
      obtain ⟨hi4, h⟩ := gb_ck_e h
      refine gb_iald_ x1.toNatClampNeg rfl (hS 103 _ rfl) hi4 d_X11_sumOf_37 ?_
      refine gb_aload_n d_X11_sumOf_38 rfl ?_
      refine gb_getr (r := 103) f_X11_133 (hS 77 _ rfl) rfl d_X11_sumOf_39 ?_
      refine gb_iload_n d_X11_sumOf_42 rfl ?_
      refine gb_iconst 1 d_X11_sumOf_43 rfl ?_
      refine gb_iadd d_X11_sumOf_44 ?_
      obtain ⟨hi5, h⟩ := gb_ck_e h
      refine gb_iald_ ((x1 + 1).toNatClampNeg) rfl (hS 103 _ rfl) hi5 d_X11_sumOf_45 ?_
      obtain ⟨r6, e7, h⟩ := gb_bd_e h
      refine gb_cVv (As := [.int (g3.1 103 x1.toNatClampNeg), .int (g3.1 103 ((x1 + 1).toNatClampNeg))]) (rest := []) m_X11_390 (t_X11_reckonAll (Γ := Γ) hS e7) (hS 77 _ rfl) rfl (Nat.le_of_ble_eq_true rfl) rfl rfl (Nat.le_of_ble_eq_true rfl) d_X11_sumOf_46 ?_
      refine gb_aload_n d_X11_sumOf_49 rfl ?_
      refine gb_iconst 0 d_X11_sumOf_50 rfl ?_
      refine gb_puti f_X11_299 (fun h => nomatch h) (hS 77 _ rfl) rfl rfl rfl d_X11_sumOf_51 ?_
      have h := gb_let_e h
      generalize gb_pi r6 77 20 0 = g8 at h ⊢
      refine gb_aload_n d_X11_sumOf_54 rfl ?_
      refine gb_aload_n d_X11_sumOf_55 rfl ?_
      refine gb_geti f_X11_373 (hS 77 _ rfl) rfl d_X11_sumOf_56 ?_
      obtain ⟨hb10, h⟩ := gb_bo_e h
      refine gb_puti f_X11_503 (fun h => nomatch h) (hS 77 _ rfl) rfl hb10 rfl d_X11_sumOf_59 ?_
      have h := gb_let_e h
      generalize gb_pi g8 77 52 (g8.1 77 38) = g9 at h ⊢
      refine gb_aload_n d_X11_sumOf_62 rfl ?_
      refine gb_getl f_X11_387 (hS 77 _ rfl) rfl d_X11_sumOf_63 ?_
      refine gb_l2i d_X11_sumOf_66 ?_
      cases h
      exact gb_iret d_X11_sumOf_67 rfl ⟨rfl, rfl, rfl⟩
    · have h := gb_it hc h
      refine gb_iconst (-1) d_X11_sumOf_24 rfl ?_
      cases h
      exact gb_iret d_X11_sumOf_25 rfl ⟨rfl, rfl, rfl⟩
-- X11_act
noncomputable def f_X11_act (sh : List gb_Sh) (g : gb_G) (x1 : Int32) (x2 : Int32) (x3 : Int32) : Option (gb_G × Int32) := if x1 = 0 then (gb_bd (f_X11_lackNow sh g x2) (fun r2 => some (r2.1, r2.2))) else if x1 = 1 then (gb_bd (f_X11_findNow sh g x2) (fun r5 => some (r5.1, r5.2))) else if x1 = 2 then (gb_bd (f_X11_weighNow sh g x2 x3) (fun r8 => some (r8.1, r8.2))) else (gb_bd (f_X11_passNow sh g) (fun r10 => some (r10.1, r10.2)))
set_option maxRecDepth 100000 in
set_option maxHeartbeats 4000000 in
theorem t_X11_act {Γ : gb_X} {sh : List gb_Sh} {x1 : Int32} {x2 : Int32} {x3 : Int32} {out : gb_G × Int32} (hS : gb_S sh) {g : gb_G} (h : f_X11_act sh g x1 x2 x3 = some out) : gb_C Γ M_X11_act 8 0 0 sh g [.ref 77, .int x1, .int x2, .int x3] (gb_Ri sh out) := by
  refine gb_C.of rfl (Nat.le_of_ble_eq_true rfl) ?_
  refine gb_pick (lv' := [(0, .ref 77), (1, .int x1), (2, .int x2), (3, .int x3)]) [0, 1, 2, 3] rfl ?_
  unfold f_X11_act at h
  refine gb_iload_n d_X11_act_0 rfl ?_
  by_cases hc1 : x1 = 0
  · have h := gb_it hc1 h
    refine gb_tabI 28 hc1 d_X11_act_1 (by decide) (by decide) rfl (by decide) ?_
    refine gb_aload_n d_X11_act_28 rfl ?_
    refine gb_iload_n d_X11_act_29 rfl ?_
    obtain ⟨r2, e3, h⟩ := gb_bd_e h
    refine gb_cVi (As := [.int x2]) (rest := []) m_X11_413 (t_X11_lackNow (Γ := Γ) hS e3) (hS 77 _ rfl) rfl (Nat.le_of_ble_eq_true rfl) rfl rfl (Nat.le_of_ble_eq_true rfl) d_X11_act_30 ?_
    cases h
    exact gb_iret d_X11_act_33 rfl ⟨rfl, rfl, rfl⟩
  replace h := gb_if hc1 h
  by_cases hc4 : x1 = 1
  · have h := gb_it hc4 h
    refine gb_tabI 34 hc4 d_X11_act_1 (by decide) (by decide) rfl (by decide) ?_
    refine gb_aload_n d_X11_act_34 rfl ?_
    refine gb_iload_n d_X11_act_35 rfl ?_
    obtain ⟨r5, e6, h⟩ := gb_bd_e h
    refine gb_cVi (As := [.int x2]) (rest := []) m_X11_416 (t_X11_findNow (Γ := Γ) hS e6) (hS 77 _ rfl) rfl (Nat.le_of_ble_eq_true rfl) rfl rfl (Nat.le_of_ble_eq_true rfl) d_X11_act_36 ?_
    cases h
    exact gb_iret d_X11_act_39 rfl ⟨rfl, rfl, rfl⟩
  replace h := gb_if hc4 h
  by_cases hc7 : x1 = 2
  · have h := gb_it hc7 h
    refine gb_tabI 40 hc7 d_X11_act_1 (by decide) (by decide) rfl (by decide) ?_
    refine gb_aload_n d_X11_act_40 rfl ?_
    refine gb_iload_n d_X11_act_41 rfl ?_
    refine gb_iload_n d_X11_act_42 rfl ?_
    obtain ⟨r8, e9, h⟩ := gb_bd_e h
    refine gb_cVi (As := [.int x2, .int x3]) (rest := []) m_X11_419 (t_X11_weighNow (Γ := Γ) hS e9) (hS 77 _ rfl) rfl (Nat.le_of_ble_eq_true rfl) rfl rfl (Nat.le_of_ble_eq_true rfl) d_X11_act_43 ?_
    cases h
    exact gb_iret d_X11_act_46 rfl ⟨rfl, rfl, rfl⟩
  replace h := gb_if hc7 h
  refine gb_tabO 47 d_X11_act_1 (gb_out 3 (by decide) (by decide) (by decide) (fun i hi => match i, hi with | 0, _ => hc1 | 1, _ => hc4 | 2, _ => hc7 | q + 3, h9 => absurd h9 (Nat.not_lt.mpr (Nat.le_add_left _ _)))) (by decide) ?_
  refine gb_aload_n d_X11_act_47 rfl ?_
  obtain ⟨r10, e11, h⟩ := gb_bd_e h
  refine gb_cVi (As := []) (rest := []) m_X11_425 (t_X11_passNow (Γ := Γ) hS e11) (hS 77 _ rfl) rfl (Nat.le_of_ble_eq_true rfl) rfl rfl (Nat.le_of_ble_eq_true rfl) d_X11_act_48 ?_
  cases h
  exact gb_iret d_X11_act_51 rfl ⟨rfl, rfl, rfl⟩
