abbrev M_L_law : gb_M := (⟨"GladBasketLaw", "law", "([I)Z"⟩, code, 4, some .boolean)
theorem gb_J.mono {Γ : gb_X} {M : gb_M} {d : Nat} {Q : gb_P} {kc ks kc' ks' : Nat} {sh : List gb_Sh} {g : gb_G} {pc : Nat} {lv : List (Nat × Value)} {st : List Value} (h1 : kc' ≤ kc) (h2 : ks' ≤ ks) (h : gb_J Γ M d Q kc' ks' sh g pc lv st) : gb_J Γ M d Q kc ks sh g pc lv st :=
  fun p e R s m args below meth c mc ms hx H locs cells slots hH q1 q2 ls hl => h p e R s m args below meth c mc ms hx H locs cells slots hH (by omega) (by omega) ls hl
theorem gb_cmp0 {x y : Int64} (h : x = y) : lg_cmp x y = 0 := by
  subst h
  simp [lg_cmp]
def ps_good (I : List gb_Sh → gb_G → Prop) : Prop := ∀ (sh : List gb_Sh) (g : gb_G) (x1 : Int32) (x2 : Int32) (x3 : Int32) (x4 : Int32) (x5 : Int32), I sh g → ∃ (o1 o2 : gb_G × Int32), f_X10_good sh g x1 x2 x3 x4 x5 = some o1 ∧ f_X11_good sh o1.1 x1 x2 x3 x4 x5 = some o2 ∧ o1.2 = o2.2 ∧ I sh o2.1
def ps_of (I : List gb_Sh → gb_G → Prop) : Prop := ∀ (sh : List gb_Sh) (g : gb_G) (x1 : Int32) (x2 : Int32), I sh g → ∃ (o1 o2 : gb_G × Int32), f_X10_of sh g x1 x2 = some o1 ∧ f_X11_of sh o1.1 x1 x2 = some o2 ∧ o1.2 = o2.2 ∧ I sh o2.1
def ps_asks (I : List gb_Sh → gb_G → Prop) : Prop := ∀ (sh : List gb_Sh) (g : gb_G) (x1 : Int32) (x2 : Int32), I sh g → ∃ (o1 o2 : gb_G × Int32), f_X10_asks sh g x1 x2 = some o1 ∧ f_X11_asks sh o1.1 x1 x2 = some o2 ∧ o1.2 = o2.2 ∧ I sh o2.1
def ps_stand (I : List gb_Sh → gb_G → Prop) : Prop := ∀ (sh : List gb_Sh) (g : gb_G) (x1 : Int32) (x2 : Int32), I sh g → ∃ (o1 o2 : gb_G × Int32), f_X10_stand sh g x1 x2 = some o1 ∧ f_X11_stand sh o1.1 x1 x2 = some o2 ∧ o1.2 = o2.2 ∧ I sh o2.1
def ps_person (I : List gb_Sh → gb_G → Prop) : Prop := ∀ (sh : List gb_Sh) (g : gb_G), I sh g → ∃ (o1 o2 : gb_G × Int32), f_X10_person sh g = some o1 ∧ f_X11_person sh o1.1 = some o2 ∧ o1.2 = o2.2 ∧ I sh o2.1
def ps_own (I : List gb_Sh → gb_G → Prop) : Prop := ∀ (sh : List gb_Sh) (g : gb_G) (x1 : Int32) (x2 : Int32) (x3 : Int32), I sh g → ∃ (o1 o2 : gb_G × Int32), f_X10_own sh g x1 x2 x3 = some o1 ∧ f_X11_own sh o1.1 x1 x2 x3 = some o2 ∧ o1.2 = o2.2 ∧ I sh o2.1
def ps_terms (I : List gb_Sh → gb_G → Prop) : Prop := ∀ (sh : List gb_Sh) (g : gb_G) (x1 : Int32) (x2 : Int32), I sh g → ∃ (o1 o2 : gb_G × Int32), f_X10_terms sh g x1 x2 = some o1 ∧ f_X11_terms sh o1.1 x1 x2 = some o2 ∧ o1.2 = o2.2 ∧ I sh o2.1
def ps_feed (I : List gb_Sh → gb_G → Prop) : Prop := ∀ (sh : List gb_Sh) (g : gb_G) (x1 : Int32) (x2 : Int32) (x3 : Int32) (x4 : Int32) (x5 : Int32), I sh g → ∃ (o1 o2 : gb_G × Int32), f_X10_feed sh g x1 x2 x3 x4 x5 = some o1 ∧ f_X11_feed sh o1.1 x1 x2 x3 x4 x5 = some o2 ∧ o1.2 = o2.2 ∧ I sh o2.1
def ps_end (I : List gb_Sh → gb_G → Prop) : Prop := ∀ (sh : List gb_Sh) (g : gb_G) (x1 : Int32), I sh g → ∃ (o1 o2 : gb_G × Int32), f_X10_end sh g x1 = some o1 ∧ f_X11_end sh o1.1 x1 = some o2 ∧ o1.2 = o2.2 ∧ I sh o2.1
def ps_row (I : List gb_Sh → gb_G → Prop) : Prop := ∀ (sh : List gb_Sh) (g : gb_G), I sh g → ∃ (o1 o2 : gb_G × Int32), f_X10_row sh g = some o1 ∧ f_X11_row sh o1.1 = some o2 ∧ o1.2 = o2.2 ∧ I sh o2.1
def ps_commas (I : List gb_Sh → gb_G → Prop) : Prop := ∀ (sh : List gb_Sh) (g : gb_G), I sh g → ∃ (o1 o2 : gb_G × Int32), f_X10_commas sh g = some o1 ∧ f_X11_commas sh o1.1 = some o2 ∧ o1.2 = o2.2 ∧ I sh o2.1
def ps_law (I : List gb_Sh → gb_G → Prop) : Prop := ∀ (sh : List gb_Sh) (g : gb_G), I sh g →
  (¬ g.1 1 7 < 6 ∧ ∃ o1 o2 : gb_G × Int32, f_X10_refuse sh (gb_pi g 43 1 0) (-5) = some o1 ∧ f_X11_law sh o1.1 = some o2 ∧ o1.2 = o2.2 ∧ I sh o2.1) ∨
  (g.1 1 7 < 6 ∧ ∃ r : gb_G × Int32, f_X8_read sh g 0 = some r ∧ ¬ r.2 = -1 ∧ ∃ o1 o2 : gb_G × Int32, f_X10_refuse sh (gb_pi r.1 0 15 r.2) (-6) = some o1 ∧ f_X11_law sh o1.1 = some o2 ∧ o1.2 = o2.2 ∧ I sh o2.1) ∨
  (g.1 1 7 < 6 ∧ ∃ (r : gb_G × Int32) (n m k : Nat), f_X8_read sh g 0 = some r ∧ r.2 = -1 ∧ n ≤ 400 ∧ m ≤ 12 ∧ k < 6 ∧ r.1.1 46 0 = Int32.ofNat n ∧ r.1.1 46 3 = Int32.ofNat m ∧ (r.1.1 46 7 = 0 ∨ r.1.1 46 7 = 1) ∧ r.1.1 1 7 = Int32.ofNat k ∧ ∀ g2 : gb_G, gb_newlaw r sh.length n m g2 → ∃ o2 : gb_G × Int32, f_X11_law (sh ++ gb_lawcells sh.length n m) (gb_pi (gb_pr (gb_pi g2 1 7 (Int32.ofNat (k + 1))) 6 k (some sh.length)) 0 18 0) = some o2 ∧ Int32.ofNat k = o2.2 ∧ I (sh ++ gb_lawcells sh.length n m) o2.1)
def ps_orders (I : List gb_Sh → gb_G → Prop) : Prop := ∀ (sh : List gb_Sh) (g : gb_G), I sh g → ∃ (o1 o2 : gb_G × Int32), f_X10_orders sh g = some o1 ∧ f_X11_orders sh o1.1 = some o2 ∧ o1.2 = o2.2 ∧ I sh o2.1
def ps_fault (I : List gb_Sh → gb_G → Prop) : Prop := ∀ (sh : List gb_Sh) (g : gb_G), I sh g → ∃ (o1 o2 : gb_G × Int32), f_X10_fault sh g = some o1 ∧ f_X11_fault sh o1.1 = some o2 ∧ o1.2 = o2.2 ∧ I sh o2.1
def ps_stopped (I : List gb_Sh → gb_G → Prop) : Prop := ∀ (sh : List gb_Sh) (g : gb_G), I sh g → ∃ (o1 o2 : gb_G × Int32), f_X10_stopped sh g = some o1 ∧ f_X11_stopped sh o1.1 = some o2 ∧ o1.2 = o2.2 ∧ I sh o2.1
def ps_force (I : List gb_Sh → gb_G → Prop) : Prop := ∀ (sh : List gb_Sh) (g : gb_G) (x1 : Int32), I sh g → ∃ (o1 o2 : gb_G × Int32), f_X10_force sh g x1 = some o1 ∧ f_X11_force sh o1.1 x1 = some o2 ∧ o1.2 = o2.2 ∧ I sh o2.1
def ps_lack (I : List gb_Sh → gb_G → Prop) : Prop := ∀ (sh : List gb_Sh) (g : gb_G) (x1 : Int32), I sh g → ∃ (o1 o2 : gb_G × Int32), f_X10_lack sh g x1 = some o1 ∧ f_X11_lack sh o1.1 x1 = some o2 ∧ o1.2 = o2.2 ∧ I sh o2.1
def ps_find (I : List gb_Sh → gb_G → Prop) : Prop := ∀ (sh : List gb_Sh) (g : gb_G) (x1 : Int32), I sh g → ∃ (o1 o2 : gb_G × Int32), f_X10_find sh g x1 = some o1 ∧ f_X11_find sh o1.1 x1 = some o2 ∧ o1.2 = o2.2 ∧ I sh o2.1
def ps_weigh (I : List gb_Sh → gb_G → Prop) : Prop := ∀ (sh : List gb_Sh) (g : gb_G) (x1 : Int32) (x2 : Int32), I sh g → ∃ (o1 o2 : gb_G × Int32), f_X10_weigh sh g x1 x2 = some o1 ∧ f_X11_weigh sh o1.1 x1 x2 = some o2 ∧ o1.2 = o2.2 ∧ I sh o2.1
def ps_pass (I : List gb_Sh → gb_G → Prop) : Prop := ∀ (sh : List gb_Sh) (g : gb_G), I sh g → ∃ (o1 o2 : gb_G × Int32), f_X10_pass sh g = some o1 ∧ f_X11_pass sh o1.1 = some o2 ∧ o1.2 = o2.2 ∧ I sh o2.1
def ps_undo (I : List gb_Sh → gb_G → Prop) : Prop := ∀ (sh : List gb_Sh) (g : gb_G), I sh g → ∃ (o1 o2 : gb_G × Int32), f_X10_undo sh g = some o1 ∧ f_X11_undo sh o1.1 = some o2 ∧ o1.2 = o2.2 ∧ I sh o2.1
def ps_figure (I : List gb_Sh → gb_G → Prop) : Prop := ∀ (sh : List gb_Sh) (g : gb_G) (x1 : Int32) (x2 : Int32), I sh g → ∃ (o1 o2 : gb_G × Int64), f_X10_figure sh g x1 x2 = some o1 ∧ f_X11_figure sh o1.1 x1 x2 = some o2 ∧ o1.2 = o2.2 ∧ I sh o2.1
def ps_turned (I : List gb_Sh → gb_G → Prop) : Prop := ∀ (sh : List gb_Sh) (g : gb_G) (x1 : Int32) (x2 : Int32), I sh g → ∃ (o1 o2 : gb_G × Int64), f_X10_turned sh g x1 x2 = some o1 ∧ f_X11_turned sh o1.1 x1 x2 = some o2 ∧ o1.2 = o2.2 ∧ I sh o2.1
def ps_pension (I : List gb_Sh → gb_G → Prop) : Prop := ∀ (sh : List gb_Sh) (g : gb_G), I sh g → ∃ (o1 o2 : gb_G × Int32), f_X10_pension sh g = some o1 ∧ f_X11_pension sh o1.1 = some o2 ∧ o1.2 = o2.2 ∧ I sh o2.1
def ps_glad (I : List gb_Sh → gb_G → Prop) : Prop := ∀ (sh : List gb_Sh) (g : gb_G) (x1 : Int32) (x2 : Int32), I sh g → ∃ (o1 o2 : gb_G × Int32), f_X10_glad sh g x1 x2 = some o1 ∧ f_X11_glad sh o1.1 x1 x2 = some o2 ∧ o1.2 = o2.2 ∧ I sh o2.1
def ps_round (I : List gb_Sh → gb_G → Prop) : Prop := ∀ (sh : List gb_Sh) (g : gb_G) (x1 : Int32) (x2 : Int32), I sh g → ∃ (o1 o2 : gb_G × Int32), f_X10_round sh g x1 x2 = some o1 ∧ f_X11_round sh o1.1 x1 x2 = some o2 ∧ o1.2 = o2.2 ∧ I sh o2.1
def ps_spent (I : List gb_Sh → gb_G → Prop) : Prop := ∀ (sh : List gb_Sh) (g : gb_G) (x1 : Int32) (x2 : Int32) (x3 : Int32), I sh g → ∃ (o1 o2 : gb_G × Int32), f_X10_spent sh g x1 x2 x3 = some o1 ∧ f_X11_spent sh o1.1 x1 x2 x3 = some o2 ∧ o1.2 = o2.2 ∧ I sh o2.1
def ps_ask (I : List gb_Sh → gb_G → Prop) : Prop := ∀ (sh : List gb_Sh) (g : gb_G) (x1 : Int32) (x2 : Int32) (x3 : Int32), I sh g → ∃ (o1 o2 : gb_G × Int32), f_X10_ask sh g x1 x2 x3 = some o1 ∧ f_X11_ask sh o1.1 x1 x2 x3 = some o2 ∧ o1.2 = o2.2 ∧ I sh o2.1
def ps_fair (I : List gb_Sh → gb_G → Prop) : Prop := ∀ (sh : List gb_Sh) (g : gb_G) (x1 : Int32) (x2 : Int32), I sh g → ∃ (o1 o2 : gb_G × Int32), f_X10_fair sh g x1 x2 = some o1 ∧ f_X11_fair sh o1.1 x1 x2 = some o2 ∧ o1.2 = o2.2 ∧ I sh o2.1
def ps_hear (I : List gb_Sh → gb_G → Prop) : Prop := ∀ (sh : List gb_Sh) (g : gb_G) (x1 : Int32), I sh g → ∃ (o1 o2 : gb_G × Int32), f_X10_hear sh g x1 = some o1 ∧ f_X11_hear sh o1.1 x1 = some o2 ∧ o1.2 = o2.2 ∧ I sh o2.1
def ps_forget (I : List gb_Sh → gb_G → Prop) : Prop := ∀ (sh : List gb_Sh) (g : gb_G), I sh g → ∃ (o1 o2 : gb_G × Int32), f_X10_forget sh g = some o1 ∧ f_X11_forget sh o1.1 = some o2 ∧ o1.2 = o2.2 ∧ I sh o2.1
def ps_trend (I : List gb_Sh → gb_G → Prop) : Prop := ∀ (sh : List gb_Sh) (g : gb_G) (x1 : Int32), I sh g → ∃ (o1 o2 : gb_G × Int32), f_X10_trend sh g x1 = some o1 ∧ f_X11_trend sh o1.1 x1 = some o2 ∧ o1.2 = o2.2 ∧ I sh o2.1
def ps_does (I : List gb_Sh → gb_G → Prop) : Prop := ∀ (sh : List gb_Sh) (g : gb_G) (x1 : Int32), I sh g → ∃ (o1 o2 : gb_G × Int32), f_X10_does sh g x1 = some o1 ∧ f_X11_does sh o1.1 x1 = some o2 ∧ o1.2 = o2.2 ∧ I sh o2.1
def ps_compare (I : List gb_Sh → gb_G → Prop) : Prop := ∀ (sh : List gb_Sh) (g : gb_G) (x1 : Int32), I sh g → ∃ (o1 o2 : gb_G × Int32), f_X10_compare sh g x1 = some o1 ∧ f_X11_compare sh o1.1 x1 = some o2 ∧ o1.2 = o2.2 ∧ I sh o2.1
def ps_gets (I : List gb_Sh → gb_G → Prop) : Prop := ∀ (sh : List gb_Sh) (g : gb_G) (x1 : Int32) (x2 : Int32), I sh g → ∃ (o1 o2 : gb_G × Int64), f_X10_gets sh g x1 x2 = some o1 ∧ f_X11_gets sh o1.1 x1 x2 = some o2 ∧ o1.2 = o2.2 ∧ I sh o2.1
def ps_years (I : List gb_Sh → gb_G → Prop) : Prop := ∀ (sh : List gb_Sh) (g : gb_G) (x1 : Int32) (x2 : Int32), I sh g → ∃ (o1 o2 : gb_G × Int32), f_X10_years sh g x1 x2 = some o1 ∧ f_X11_years sh o1.1 x1 x2 = some o2 ∧ o1.2 = o2.2 ∧ I sh o2.1
def ps_drawn (I : List gb_Sh → gb_G → Prop) : Prop := ∀ (sh : List gb_Sh) (g : gb_G) (x1 : Int32) (x2 : Int32), I sh g → ∃ (o1 o2 : gb_G × Int32), f_X10_drawn sh g x1 x2 = some o1 ∧ f_X11_drawn sh o1.1 x1 x2 = some o2 ∧ o1.2 = o2.2 ∧ I sh o2.1
def ps_image (I : List gb_Sh → gb_G → Prop) : Prop := ∀ (sh : List gb_Sh) (g : gb_G) (x1 : Int32), I sh g → ∃ (o1 o2 : gb_G × Int32), f_X10_image sh g x1 = some o1 ∧ f_X11_image sh o1.1 x1 = some o2 ∧ o1.2 = o2.2 ∧ I sh o2.1
def ps_back (I : List gb_Sh → gb_G → Prop) : Prop := ∀ (sh : List gb_Sh) (g : gb_G) (x1 : Int32), I sh g → ∃ (o1 o2 : gb_G × Int32), f_X10_back sh g x1 = some o1 ∧ f_X11_back sh o1.1 x1 = some o2 ∧ o1.2 = o2.2 ∧ I sh o2.1
def ps_count (I : List gb_Sh → gb_G → Prop) : Prop := ∀ (sh : List gb_Sh) (g : gb_G) (x1 : Int32), I sh g → ∃ (o1 o2 : gb_G × Int32), f_X10_count sh g x1 = some o1 ∧ f_X11_count sh o1.1 x1 = some o2 ∧ o1.2 = o2.2 ∧ I sh o2.1
def ps_status (I : List gb_Sh → gb_G → Prop) : Prop := ∀ (sh : List gb_Sh) (g : gb_G), I sh g → ∃ (o1 o2 : gb_G × Int32), f_X10_status sh g = some o1 ∧ f_X11_status sh o1.1 = some o2 ∧ o1.2 = o2.2 ∧ I sh o2.1
set_option maxRecDepth 100000 in
set_option maxHeartbeats 4000000 in
theorem lc_good {Γ : gb_X} {I : List gb_Sh → gb_G → Prop} {Lz : Nat} {xs : Nat → Int32} {Q : gb_P} {kc ks : Nat} {sh : List gb_Sh} {g : gb_G} {x3 : Int32} (hX : va_T .int (Γ.2.2.2.2 0) Lz (fun k => .int (xs k)) (fun q => gb_sz Γ ≤ q) Γ.2.2.2.1 Γ.2.2.2.1.heap) (hi1 : vp_in (x3 + 1) Lz) (hi2 : vp_in (x3 + 2) Lz) (hi3 : vp_in (x3 + 3) Lz) (hi4 : vp_in (x3 + 4) Lz) (hi5 : vp_in (x3 + 5) Lz) (hS : gb_S sh) (hI : I sh g) (hp : ps_good I) (hN : ∀ (sh : List gb_Sh) (g : gb_G), I sh g → gb_J Γ M_L_law 500 Q kc ks sh g 1308 [(0, .retAddr 0), (1, .ref 0), (2, .ref 77), (3, .int x3)] []) : gb_J Γ M_L_law 500 Q (kc + 6) (ks + 869) sh g 212 [(0, .retAddr 0), (1, .ref 0), (2, .ref 77), (3, .int x3)] [] := by
  obtain ⟨o1, o2, e1, e2, er, hI2⟩ := hp sh g (xs (x3 + 1).toNatClampNeg) (xs (x3 + 2).toNatClampNeg) (xs (x3 + 3).toNatClampNeg) (xs (x3 + 4).toNatClampNeg) (xs (x3 + 5).toNatClampNeg) hI
  refine gb_J.mono (Nat.le_add_right kc 6) (Nat.le_add_right ks 869) ?_
  refine gb_aload_n d_L_law_212 rfl ?_
  refine gb_rload_n d_L_law_213 rfl ?_
  refine gb_iload_n d_L_law_214 rfl ?_
  refine gb_iconst 1 d_L_law_215 rfl ?_
  refine gb_iadd d_L_law_216 ?_
  refine gb_riald (f := xs) (fun _ => hX) hi1 d_L_law_217 ?_
  refine gb_rload_n d_L_law_218 rfl ?_
  refine gb_iload_n d_L_law_219 rfl ?_
  refine gb_iconst 2 d_L_law_220 rfl ?_
  refine gb_iadd d_L_law_221 ?_
  refine gb_riald (f := xs) (fun _ => hX) hi2 d_L_law_222 ?_
  refine gb_rload_n d_L_law_223 rfl ?_
  refine gb_iload_n d_L_law_224 rfl ?_
  refine gb_iconst 3 d_L_law_225 rfl ?_
  refine gb_iadd d_L_law_226 ?_
  refine gb_riald (f := xs) (fun _ => hX) hi3 d_L_law_227 ?_
  refine gb_rload_n d_L_law_228 rfl ?_
  refine gb_iload_n d_L_law_229 rfl ?_
  refine gb_iconst 4 d_L_law_230 rfl ?_
  refine gb_iadd d_L_law_231 ?_
  refine gb_riald (f := xs) (fun _ => hX) hi4 d_L_law_232 ?_
  refine gb_rload_n d_L_law_233 rfl ?_
  refine gb_iload_n d_L_law_234 rfl ?_
  refine gb_iconst 5 d_L_law_235 rfl ?_
  refine gb_iadd d_L_law_236 ?_
  refine gb_riald (f := xs) (fun _ => hX) hi5 d_L_law_237 ?_
  refine gb_cVi (As := [.int (xs (x3 + 1).toNatClampNeg), .int (xs (x3 + 2).toNatClampNeg), .int (xs (x3 + 3).toNatClampNeg), .int (xs (x3 + 4).toNatClampNeg), .int (xs (x3 + 5).toNatClampNeg)]) (rest := []) m_L_13 (t_X10_good (Γ := Γ) hS e1) (hS 0 _ rfl) rfl (Nat.le_of_ble_eq_true rfl) rfl rfl (Nat.le_of_ble_eq_true rfl) d_L_law_238 ?_
  refine gb_aload_n d_L_law_241 rfl ?_
  refine gb_rload_n d_L_law_242 rfl ?_
  refine gb_iload_n d_L_law_243 rfl ?_
  refine gb_iconst 1 d_L_law_244 rfl ?_
  refine gb_iadd d_L_law_245 ?_
  refine gb_riald (f := xs) (fun _ => hX) hi1 d_L_law_246 ?_
  refine gb_rload_n d_L_law_247 rfl ?_
  refine gb_iload_n d_L_law_248 rfl ?_
  refine gb_iconst 2 d_L_law_249 rfl ?_
  refine gb_iadd d_L_law_250 ?_
  refine gb_riald (f := xs) (fun _ => hX) hi2 d_L_law_251 ?_
  refine gb_rload_n d_L_law_252 rfl ?_
  refine gb_iload_n d_L_law_253 rfl ?_
  refine gb_iconst 3 d_L_law_254 rfl ?_
  refine gb_iadd d_L_law_255 ?_
  refine gb_riald (f := xs) (fun _ => hX) hi3 d_L_law_256 ?_
  refine gb_rload_n d_L_law_257 rfl ?_
  refine gb_iload_n d_L_law_258 rfl ?_
  refine gb_iconst 4 d_L_law_259 rfl ?_
  refine gb_iadd d_L_law_260 ?_
  refine gb_riald (f := xs) (fun _ => hX) hi4 d_L_law_261 ?_
  refine gb_rload_n d_L_law_262 rfl ?_
  refine gb_iload_n d_L_law_263 rfl ?_
  refine gb_iconst 5 d_L_law_264 rfl ?_
  refine gb_iadd d_L_law_265 ?_
  refine gb_riald (f := xs) (fun _ => hX) hi5 d_L_law_266 ?_
  refine gb_cVi (As := [.int (xs (x3 + 1).toNatClampNeg), .int (xs (x3 + 2).toNatClampNeg), .int (xs (x3 + 3).toNatClampNeg), .int (xs (x3 + 4).toNatClampNeg), .int (xs (x3 + 5).toNatClampNeg)]) (rest := [.int o1.2]) m_L_17 (t_X11_good (Γ := Γ) hS e2) (hS 77 _ rfl) rfl (Nat.le_of_ble_eq_true rfl) rfl rfl (Nat.le_of_ble_eq_true rfl) d_L_law_267 ?_
  refine gb_icmp_eq 1308 d_L_law_270 (by decide) (fun _ => ?_) (fun hc => absurd (er) hc)
  exact hN _ _ hI2
set_option maxRecDepth 100000 in
set_option maxHeartbeats 4000000 in
theorem lc_of {Γ : gb_X} {I : List gb_Sh → gb_G → Prop} {Lz : Nat} {xs : Nat → Int32} {Q : gb_P} {kc ks : Nat} {sh : List gb_Sh} {g : gb_G} {x3 : Int32} (hX : va_T .int (Γ.2.2.2.2 0) Lz (fun k => .int (xs k)) (fun q => gb_sz Γ ≤ q) Γ.2.2.2.1 Γ.2.2.2.1.heap) (hi1 : vp_in (x3 + 1) Lz) (hi2 : vp_in (x3 + 2) Lz) (hi3 : vp_in (x3 + 3) Lz) (hi4 : vp_in (x3 + 4) Lz) (hi5 : vp_in (x3 + 5) Lz) (hS : gb_S sh) (hI : I sh g) (hp : ps_of I) (hN : ∀ (sh : List gb_Sh) (g : gb_G), I sh g → gb_J Γ M_L_law 500 Q kc ks sh g 1308 [(0, .retAddr 0), (1, .ref 0), (2, .ref 77), (3, .int x3)] []) : gb_J Γ M_L_law 500 Q (kc + 6) (ks + 869) sh g 275 [(0, .retAddr 0), (1, .ref 0), (2, .ref 77), (3, .int x3)] [] := by
  obtain ⟨o1, o2, e1, e2, er, hI2⟩ := hp sh g (xs (x3 + 1).toNatClampNeg) (xs (x3 + 2).toNatClampNeg) hI
  refine gb_J.mono (Nat.le_add_right kc 6) (Nat.le_add_right ks 869) ?_
  refine gb_aload_n d_L_law_275 rfl ?_
  refine gb_rload_n d_L_law_276 rfl ?_
  refine gb_iload_n d_L_law_277 rfl ?_
  refine gb_iconst 1 d_L_law_278 rfl ?_
  refine gb_iadd d_L_law_279 ?_
  refine gb_riald (f := xs) (fun _ => hX) hi1 d_L_law_280 ?_
  refine gb_rload_n d_L_law_281 rfl ?_
  refine gb_iload_n d_L_law_282 rfl ?_
  refine gb_iconst 2 d_L_law_283 rfl ?_
  refine gb_iadd d_L_law_284 ?_
  refine gb_riald (f := xs) (fun _ => hX) hi2 d_L_law_285 ?_
  refine gb_cVi (As := [.int (xs (x3 + 1).toNatClampNeg), .int (xs (x3 + 2).toNatClampNeg)]) (rest := []) m_L_18 (t_X10_of (Γ := Γ) hS e1) (hS 0 _ rfl) rfl (Nat.le_of_ble_eq_true rfl) rfl rfl (Nat.le_of_ble_eq_true rfl) d_L_law_286 ?_
  refine gb_aload_n d_L_law_289 rfl ?_
  refine gb_rload_n d_L_law_290 rfl ?_
  refine gb_iload_n d_L_law_291 rfl ?_
  refine gb_iconst 1 d_L_law_292 rfl ?_
  refine gb_iadd d_L_law_293 ?_
  refine gb_riald (f := xs) (fun _ => hX) hi1 d_L_law_294 ?_
  refine gb_rload_n d_L_law_295 rfl ?_
  refine gb_iload_n d_L_law_296 rfl ?_
  refine gb_iconst 2 d_L_law_297 rfl ?_
  refine gb_iadd d_L_law_298 ?_
  refine gb_riald (f := xs) (fun _ => hX) hi2 d_L_law_299 ?_
  refine gb_cVi (As := [.int (xs (x3 + 1).toNatClampNeg), .int (xs (x3 + 2).toNatClampNeg)]) (rest := [.int o1.2]) m_L_22 (t_X11_of (Γ := Γ) hS e2) (hS 77 _ rfl) rfl (Nat.le_of_ble_eq_true rfl) rfl rfl (Nat.le_of_ble_eq_true rfl) d_L_law_300 ?_
  refine gb_icmp_eq 1308 d_L_law_303 (by decide) (fun _ => ?_) (fun hc => absurd (er) hc)
  exact hN _ _ hI2
set_option maxRecDepth 100000 in
set_option maxHeartbeats 4000000 in
theorem lc_asks {Γ : gb_X} {I : List gb_Sh → gb_G → Prop} {Lz : Nat} {xs : Nat → Int32} {Q : gb_P} {kc ks : Nat} {sh : List gb_Sh} {g : gb_G} {x3 : Int32} (hX : va_T .int (Γ.2.2.2.2 0) Lz (fun k => .int (xs k)) (fun q => gb_sz Γ ≤ q) Γ.2.2.2.1 Γ.2.2.2.1.heap) (hi1 : vp_in (x3 + 1) Lz) (hi2 : vp_in (x3 + 2) Lz) (hi3 : vp_in (x3 + 3) Lz) (hi4 : vp_in (x3 + 4) Lz) (hi5 : vp_in (x3 + 5) Lz) (hS : gb_S sh) (hI : I sh g) (hp : ps_asks I) (hN : ∀ (sh : List gb_Sh) (g : gb_G), I sh g → gb_J Γ M_L_law 500 Q kc ks sh g 1308 [(0, .retAddr 0), (1, .ref 0), (2, .ref 77), (3, .int x3)] []) : gb_J Γ M_L_law 500 Q (kc + 6) (ks + 869) sh g 308 [(0, .retAddr 0), (1, .ref 0), (2, .ref 77), (3, .int x3)] [] := by
  obtain ⟨o1, o2, e1, e2, er, hI2⟩ := hp sh g (xs (x3 + 1).toNatClampNeg) (xs (x3 + 2).toNatClampNeg) hI
  refine gb_J.mono (Nat.le_add_right kc 6) (Nat.le_add_right ks 869) ?_
  refine gb_aload_n d_L_law_308 rfl ?_
  refine gb_rload_n d_L_law_309 rfl ?_
  refine gb_iload_n d_L_law_310 rfl ?_
  refine gb_iconst 1 d_L_law_311 rfl ?_
  refine gb_iadd d_L_law_312 ?_
  refine gb_riald (f := xs) (fun _ => hX) hi1 d_L_law_313 ?_
  refine gb_rload_n d_L_law_314 rfl ?_
  refine gb_iload_n d_L_law_315 rfl ?_
  refine gb_iconst 2 d_L_law_316 rfl ?_
  refine gb_iadd d_L_law_317 ?_
  refine gb_riald (f := xs) (fun _ => hX) hi2 d_L_law_318 ?_
  refine gb_cVi (As := [.int (xs (x3 + 1).toNatClampNeg), .int (xs (x3 + 2).toNatClampNeg)]) (rest := []) m_L_23 (t_X10_asks (Γ := Γ) hS e1) (hS 0 _ rfl) rfl (Nat.le_of_ble_eq_true rfl) rfl rfl (Nat.le_of_ble_eq_true rfl) d_L_law_319 ?_
  refine gb_aload_n d_L_law_322 rfl ?_
  refine gb_rload_n d_L_law_323 rfl ?_
  refine gb_iload_n d_L_law_324 rfl ?_
  refine gb_iconst 1 d_L_law_325 rfl ?_
  refine gb_iadd d_L_law_326 ?_
  refine gb_riald (f := xs) (fun _ => hX) hi1 d_L_law_327 ?_
  refine gb_rload_n d_L_law_328 rfl ?_
  refine gb_iload_n d_L_law_329 rfl ?_
  refine gb_iconst 2 d_L_law_330 rfl ?_
  refine gb_iadd d_L_law_331 ?_
  refine gb_riald (f := xs) (fun _ => hX) hi2 d_L_law_332 ?_
  refine gb_cVi (As := [.int (xs (x3 + 1).toNatClampNeg), .int (xs (x3 + 2).toNatClampNeg)]) (rest := [.int o1.2]) m_L_26 (t_X11_asks (Γ := Γ) hS e2) (hS 77 _ rfl) rfl (Nat.le_of_ble_eq_true rfl) rfl rfl (Nat.le_of_ble_eq_true rfl) d_L_law_333 ?_
  refine gb_icmp_eq 1308 d_L_law_336 (by decide) (fun _ => ?_) (fun hc => absurd (er) hc)
  exact hN _ _ hI2
set_option maxRecDepth 100000 in
set_option maxHeartbeats 4000000 in
theorem lc_stand {Γ : gb_X} {I : List gb_Sh → gb_G → Prop} {Lz : Nat} {xs : Nat → Int32} {Q : gb_P} {kc ks : Nat} {sh : List gb_Sh} {g : gb_G} {x3 : Int32} (hX : va_T .int (Γ.2.2.2.2 0) Lz (fun k => .int (xs k)) (fun q => gb_sz Γ ≤ q) Γ.2.2.2.1 Γ.2.2.2.1.heap) (hi1 : vp_in (x3 + 1) Lz) (hi2 : vp_in (x3 + 2) Lz) (hi3 : vp_in (x3 + 3) Lz) (hi4 : vp_in (x3 + 4) Lz) (hi5 : vp_in (x3 + 5) Lz) (hS : gb_S sh) (hI : I sh g) (hp : ps_stand I) (hN : ∀ (sh : List gb_Sh) (g : gb_G), I sh g → gb_J Γ M_L_law 500 Q kc ks sh g 1308 [(0, .retAddr 0), (1, .ref 0), (2, .ref 77), (3, .int x3)] []) : gb_J Γ M_L_law 500 Q (kc + 6) (ks + 869) sh g 341 [(0, .retAddr 0), (1, .ref 0), (2, .ref 77), (3, .int x3)] [] := by
  obtain ⟨o1, o2, e1, e2, er, hI2⟩ := hp sh g (xs (x3 + 1).toNatClampNeg) (xs (x3 + 2).toNatClampNeg) hI
  refine gb_J.mono (Nat.le_add_right kc 6) (Nat.le_add_right ks 869) ?_
  refine gb_aload_n d_L_law_341 rfl ?_
  refine gb_rload_n d_L_law_342 rfl ?_
  refine gb_iload_n d_L_law_343 rfl ?_
  refine gb_iconst 1 d_L_law_344 rfl ?_
  refine gb_iadd d_L_law_345 ?_
  refine gb_riald (f := xs) (fun _ => hX) hi1 d_L_law_346 ?_
  refine gb_rload_n d_L_law_347 rfl ?_
  refine gb_iload_n d_L_law_348 rfl ?_
  refine gb_iconst 2 d_L_law_349 rfl ?_
  refine gb_iadd d_L_law_350 ?_
  refine gb_riald (f := xs) (fun _ => hX) hi2 d_L_law_351 ?_
  refine gb_cVi (As := [.int (xs (x3 + 1).toNatClampNeg), .int (xs (x3 + 2).toNatClampNeg)]) (rest := []) m_L_27 (t_X10_stand (Γ := Γ) hS e1) (hS 0 _ rfl) rfl (Nat.le_of_ble_eq_true rfl) rfl rfl (Nat.le_of_ble_eq_true rfl) d_L_law_352 ?_
  refine gb_aload_n d_L_law_355 rfl ?_
  refine gb_rload_n d_L_law_356 rfl ?_
  refine gb_iload_n d_L_law_357 rfl ?_
  refine gb_iconst 1 d_L_law_358 rfl ?_
  refine gb_iadd d_L_law_359 ?_
  refine gb_riald (f := xs) (fun _ => hX) hi1 d_L_law_360 ?_
  refine gb_rload_n d_L_law_361 rfl ?_
  refine gb_iload_n d_L_law_362 rfl ?_
  refine gb_iconst 2 d_L_law_363 rfl ?_
  refine gb_iadd d_L_law_364 ?_
  refine gb_riald (f := xs) (fun _ => hX) hi2 d_L_law_365 ?_
  refine gb_cVi (As := [.int (xs (x3 + 1).toNatClampNeg), .int (xs (x3 + 2).toNatClampNeg)]) (rest := [.int o1.2]) m_L_30 (t_X11_stand (Γ := Γ) hS e2) (hS 77 _ rfl) rfl (Nat.le_of_ble_eq_true rfl) rfl rfl (Nat.le_of_ble_eq_true rfl) d_L_law_366 ?_
  refine gb_icmp_eq 1308 d_L_law_369 (by decide) (fun _ => ?_) (fun hc => absurd (er) hc)
  exact hN _ _ hI2
set_option maxRecDepth 100000 in
set_option maxHeartbeats 4000000 in
theorem lc_person {Γ : gb_X} {I : List gb_Sh → gb_G → Prop} {Lz : Nat} {xs : Nat → Int32} {Q : gb_P} {kc ks : Nat} {sh : List gb_Sh} {g : gb_G} {x3 : Int32} (hX : va_T .int (Γ.2.2.2.2 0) Lz (fun k => .int (xs k)) (fun q => gb_sz Γ ≤ q) Γ.2.2.2.1 Γ.2.2.2.1.heap) (hi1 : vp_in (x3 + 1) Lz) (hi2 : vp_in (x3 + 2) Lz) (hi3 : vp_in (x3 + 3) Lz) (hi4 : vp_in (x3 + 4) Lz) (hi5 : vp_in (x3 + 5) Lz) (hS : gb_S sh) (hI : I sh g) (hp : ps_person I) (hN : ∀ (sh : List gb_Sh) (g : gb_G), I sh g → gb_J Γ M_L_law 500 Q kc ks sh g 1308 [(0, .retAddr 0), (1, .ref 0), (2, .ref 77), (3, .int x3)] []) : gb_J Γ M_L_law 500 Q (kc + 6) (ks + 869) sh g 374 [(0, .retAddr 0), (1, .ref 0), (2, .ref 77), (3, .int x3)] [] := by
  obtain ⟨o1, o2, e1, e2, er, hI2⟩ := hp sh g hI
  refine gb_J.mono (Nat.le_add_right kc 6) (Nat.le_add_right ks 869) ?_
  refine gb_aload_n d_L_law_374 rfl ?_
  refine gb_cVi (As := []) (rest := []) m_L_31 (t_X10_person (Γ := Γ) hS e1) (hS 0 _ rfl) rfl (Nat.le_of_ble_eq_true rfl) rfl rfl (Nat.le_of_ble_eq_true rfl) d_L_law_375 ?_
  refine gb_aload_n d_L_law_378 rfl ?_
  refine gb_cVi (As := []) (rest := [.int o1.2]) m_L_35 (t_X11_person (Γ := Γ) hS e2) (hS 77 _ rfl) rfl (Nat.le_of_ble_eq_true rfl) rfl rfl (Nat.le_of_ble_eq_true rfl) d_L_law_379 ?_
  refine gb_icmp_eq 1308 d_L_law_382 (by decide) (fun _ => ?_) (fun hc => absurd (er) hc)
  exact hN _ _ hI2
set_option maxRecDepth 100000 in
set_option maxHeartbeats 4000000 in
theorem lc_own {Γ : gb_X} {I : List gb_Sh → gb_G → Prop} {Lz : Nat} {xs : Nat → Int32} {Q : gb_P} {kc ks : Nat} {sh : List gb_Sh} {g : gb_G} {x3 : Int32} (hX : va_T .int (Γ.2.2.2.2 0) Lz (fun k => .int (xs k)) (fun q => gb_sz Γ ≤ q) Γ.2.2.2.1 Γ.2.2.2.1.heap) (hi1 : vp_in (x3 + 1) Lz) (hi2 : vp_in (x3 + 2) Lz) (hi3 : vp_in (x3 + 3) Lz) (hi4 : vp_in (x3 + 4) Lz) (hi5 : vp_in (x3 + 5) Lz) (hS : gb_S sh) (hI : I sh g) (hp : ps_own I) (hN : ∀ (sh : List gb_Sh) (g : gb_G), I sh g → gb_J Γ M_L_law 500 Q kc ks sh g 1308 [(0, .retAddr 0), (1, .ref 0), (2, .ref 77), (3, .int x3)] []) : gb_J Γ M_L_law 500 Q (kc + 6) (ks + 869) sh g 387 [(0, .retAddr 0), (1, .ref 0), (2, .ref 77), (3, .int x3)] [] := by
  obtain ⟨o1, o2, e1, e2, er, hI2⟩ := hp sh g (xs (x3 + 1).toNatClampNeg) (xs (x3 + 2).toNatClampNeg) (xs (x3 + 3).toNatClampNeg) hI
  refine gb_J.mono (Nat.le_add_right kc 6) (Nat.le_add_right ks 869) ?_
  refine gb_aload_n d_L_law_387 rfl ?_
  refine gb_rload_n d_L_law_388 rfl ?_
  refine gb_iload_n d_L_law_389 rfl ?_
  refine gb_iconst 1 d_L_law_390 rfl ?_
  refine gb_iadd d_L_law_391 ?_
  refine gb_riald (f := xs) (fun _ => hX) hi1 d_L_law_392 ?_
  refine gb_rload_n d_L_law_393 rfl ?_
  refine gb_iload_n d_L_law_394 rfl ?_
  refine gb_iconst 2 d_L_law_395 rfl ?_
  refine gb_iadd d_L_law_396 ?_
  refine gb_riald (f := xs) (fun _ => hX) hi2 d_L_law_397 ?_
  refine gb_rload_n d_L_law_398 rfl ?_
  refine gb_iload_n d_L_law_399 rfl ?_
  refine gb_iconst 3 d_L_law_400 rfl ?_
  refine gb_iadd d_L_law_401 ?_
  refine gb_riald (f := xs) (fun _ => hX) hi3 d_L_law_402 ?_
  refine gb_cVi (As := [.int (xs (x3 + 1).toNatClampNeg), .int (xs (x3 + 2).toNatClampNeg), .int (xs (x3 + 3).toNatClampNeg)]) (rest := []) m_L_36 (t_X10_own (Γ := Γ) hS e1) (hS 0 _ rfl) rfl (Nat.le_of_ble_eq_true rfl) rfl rfl (Nat.le_of_ble_eq_true rfl) d_L_law_403 ?_
  refine gb_aload_n d_L_law_406 rfl ?_
  refine gb_rload_n d_L_law_407 rfl ?_
  refine gb_iload_n d_L_law_408 rfl ?_
  refine gb_iconst 1 d_L_law_409 rfl ?_
  refine gb_iadd d_L_law_410 ?_
  refine gb_riald (f := xs) (fun _ => hX) hi1 d_L_law_411 ?_
  refine gb_rload_n d_L_law_412 rfl ?_
  refine gb_iload_n d_L_law_413 rfl ?_
  refine gb_iconst 2 d_L_law_414 rfl ?_
  refine gb_iadd d_L_law_415 ?_
  refine gb_riald (f := xs) (fun _ => hX) hi2 d_L_law_416 ?_
  refine gb_rload_n d_L_law_417 rfl ?_
  refine gb_iload_n d_L_law_418 rfl ?_
  refine gb_iconst 3 d_L_law_419 rfl ?_
  refine gb_iadd d_L_law_420 ?_
  refine gb_riald (f := xs) (fun _ => hX) hi3 d_L_law_421 ?_
  refine gb_cVi (As := [.int (xs (x3 + 1).toNatClampNeg), .int (xs (x3 + 2).toNatClampNeg), .int (xs (x3 + 3).toNatClampNeg)]) (rest := [.int o1.2]) m_L_40 (t_X11_own (Γ := Γ) hS e2) (hS 77 _ rfl) rfl (Nat.le_of_ble_eq_true rfl) rfl rfl (Nat.le_of_ble_eq_true rfl) d_L_law_422 ?_
  refine gb_icmp_eq 1308 d_L_law_425 (by decide) (fun _ => ?_) (fun hc => absurd (er) hc)
  exact hN _ _ hI2
set_option maxRecDepth 100000 in
set_option maxHeartbeats 4000000 in
theorem lc_terms {Γ : gb_X} {I : List gb_Sh → gb_G → Prop} {Lz : Nat} {xs : Nat → Int32} {Q : gb_P} {kc ks : Nat} {sh : List gb_Sh} {g : gb_G} {x3 : Int32} (hX : va_T .int (Γ.2.2.2.2 0) Lz (fun k => .int (xs k)) (fun q => gb_sz Γ ≤ q) Γ.2.2.2.1 Γ.2.2.2.1.heap) (hi1 : vp_in (x3 + 1) Lz) (hi2 : vp_in (x3 + 2) Lz) (hi3 : vp_in (x3 + 3) Lz) (hi4 : vp_in (x3 + 4) Lz) (hi5 : vp_in (x3 + 5) Lz) (hS : gb_S sh) (hI : I sh g) (hp : ps_terms I) (hN : ∀ (sh : List gb_Sh) (g : gb_G), I sh g → gb_J Γ M_L_law 500 Q kc ks sh g 1308 [(0, .retAddr 0), (1, .ref 0), (2, .ref 77), (3, .int x3)] []) : gb_J Γ M_L_law 500 Q (kc + 6) (ks + 869) sh g 430 [(0, .retAddr 0), (1, .ref 0), (2, .ref 77), (3, .int x3)] [] := by
  obtain ⟨o1, o2, e1, e2, er, hI2⟩ := hp sh g (xs (x3 + 1).toNatClampNeg) (xs (x3 + 2).toNatClampNeg) hI
  refine gb_J.mono (Nat.le_add_right kc 6) (Nat.le_add_right ks 869) ?_
  refine gb_aload_n d_L_law_430 rfl ?_
  refine gb_rload_n d_L_law_431 rfl ?_
  refine gb_iload_n d_L_law_432 rfl ?_
  refine gb_iconst 1 d_L_law_433 rfl ?_
  refine gb_iadd d_L_law_434 ?_
  refine gb_riald (f := xs) (fun _ => hX) hi1 d_L_law_435 ?_
  refine gb_rload_n d_L_law_436 rfl ?_
  refine gb_iload_n d_L_law_437 rfl ?_
  refine gb_iconst 2 d_L_law_438 rfl ?_
  refine gb_iadd d_L_law_439 ?_
  refine gb_riald (f := xs) (fun _ => hX) hi2 d_L_law_440 ?_
  refine gb_cVi (As := [.int (xs (x3 + 1).toNatClampNeg), .int (xs (x3 + 2).toNatClampNeg)]) (rest := []) m_L_41 (t_X10_terms (Γ := Γ) hS e1) (hS 0 _ rfl) rfl (Nat.le_of_ble_eq_true rfl) rfl rfl (Nat.le_of_ble_eq_true rfl) d_L_law_441 ?_
  refine gb_aload_n d_L_law_444 rfl ?_
  refine gb_rload_n d_L_law_445 rfl ?_
  refine gb_iload_n d_L_law_446 rfl ?_
  refine gb_iconst 1 d_L_law_447 rfl ?_
  refine gb_iadd d_L_law_448 ?_
  refine gb_riald (f := xs) (fun _ => hX) hi1 d_L_law_449 ?_
  refine gb_rload_n d_L_law_450 rfl ?_
  refine gb_iload_n d_L_law_451 rfl ?_
  refine gb_iconst 2 d_L_law_452 rfl ?_
  refine gb_iadd d_L_law_453 ?_
  refine gb_riald (f := xs) (fun _ => hX) hi2 d_L_law_454 ?_
  refine gb_cVi (As := [.int (xs (x3 + 1).toNatClampNeg), .int (xs (x3 + 2).toNatClampNeg)]) (rest := [.int o1.2]) m_L_44 (t_X11_terms (Γ := Γ) hS e2) (hS 77 _ rfl) rfl (Nat.le_of_ble_eq_true rfl) rfl rfl (Nat.le_of_ble_eq_true rfl) d_L_law_455 ?_
  refine gb_icmp_eq 1308 d_L_law_458 (by decide) (fun _ => ?_) (fun hc => absurd (er) hc)
  exact hN _ _ hI2
set_option maxRecDepth 100000 in
set_option maxHeartbeats 4000000 in
theorem lc_feed {Γ : gb_X} {I : List gb_Sh → gb_G → Prop} {Lz : Nat} {xs : Nat → Int32} {Q : gb_P} {kc ks : Nat} {sh : List gb_Sh} {g : gb_G} {x3 : Int32} (hX : va_T .int (Γ.2.2.2.2 0) Lz (fun k => .int (xs k)) (fun q => gb_sz Γ ≤ q) Γ.2.2.2.1 Γ.2.2.2.1.heap) (hi1 : vp_in (x3 + 1) Lz) (hi2 : vp_in (x3 + 2) Lz) (hi3 : vp_in (x3 + 3) Lz) (hi4 : vp_in (x3 + 4) Lz) (hi5 : vp_in (x3 + 5) Lz) (hS : gb_S sh) (hI : I sh g) (hp : ps_feed I) (hN : ∀ (sh : List gb_Sh) (g : gb_G), I sh g → gb_J Γ M_L_law 500 Q kc ks sh g 1308 [(0, .retAddr 0), (1, .ref 0), (2, .ref 77), (3, .int x3)] []) : gb_J Γ M_L_law 500 Q (kc + 6) (ks + 869) sh g 463 [(0, .retAddr 0), (1, .ref 0), (2, .ref 77), (3, .int x3)] [] := by
  obtain ⟨o1, o2, e1, e2, er, hI2⟩ := hp sh g (xs (x3 + 1).toNatClampNeg) (xs (x3 + 2).toNatClampNeg) (xs (x3 + 3).toNatClampNeg) (xs (x3 + 4).toNatClampNeg) (xs (x3 + 5).toNatClampNeg) hI
  refine gb_J.mono (Nat.le_add_right kc 6) (Nat.le_add_right ks 869) ?_
  refine gb_aload_n d_L_law_463 rfl ?_
  refine gb_rload_n d_L_law_464 rfl ?_
  refine gb_iload_n d_L_law_465 rfl ?_
  refine gb_iconst 1 d_L_law_466 rfl ?_
  refine gb_iadd d_L_law_467 ?_
  refine gb_riald (f := xs) (fun _ => hX) hi1 d_L_law_468 ?_
  refine gb_rload_n d_L_law_469 rfl ?_
  refine gb_iload_n d_L_law_470 rfl ?_
  refine gb_iconst 2 d_L_law_471 rfl ?_
  refine gb_iadd d_L_law_472 ?_
  refine gb_riald (f := xs) (fun _ => hX) hi2 d_L_law_473 ?_
  refine gb_rload_n d_L_law_474 rfl ?_
  refine gb_iload_n d_L_law_475 rfl ?_
  refine gb_iconst 3 d_L_law_476 rfl ?_
  refine gb_iadd d_L_law_477 ?_
  refine gb_riald (f := xs) (fun _ => hX) hi3 d_L_law_478 ?_
  refine gb_rload_n d_L_law_479 rfl ?_
  refine gb_iload_n d_L_law_480 rfl ?_
  refine gb_iconst 4 d_L_law_481 rfl ?_
  refine gb_iadd d_L_law_482 ?_
  refine gb_riald (f := xs) (fun _ => hX) hi4 d_L_law_483 ?_
  refine gb_rload_n d_L_law_484 rfl ?_
  refine gb_iload_n d_L_law_485 rfl ?_
  refine gb_iconst 5 d_L_law_486 rfl ?_
  refine gb_iadd d_L_law_487 ?_
  refine gb_riald (f := xs) (fun _ => hX) hi5 d_L_law_488 ?_
  refine gb_cVi (As := [.int (xs (x3 + 1).toNatClampNeg), .int (xs (x3 + 2).toNatClampNeg), .int (xs (x3 + 3).toNatClampNeg), .int (xs (x3 + 4).toNatClampNeg), .int (xs (x3 + 5).toNatClampNeg)]) (rest := []) m_L_45 (t_X10_feed (Γ := Γ) hS e1) (hS 0 _ rfl) rfl (Nat.le_of_ble_eq_true rfl) rfl rfl (Nat.le_of_ble_eq_true rfl) d_L_law_489 ?_
  refine gb_aload_n d_L_law_492 rfl ?_
  refine gb_rload_n d_L_law_493 rfl ?_
  refine gb_iload_n d_L_law_494 rfl ?_
  refine gb_iconst 1 d_L_law_495 rfl ?_
  refine gb_iadd d_L_law_496 ?_
  refine gb_riald (f := xs) (fun _ => hX) hi1 d_L_law_497 ?_
  refine gb_rload_n d_L_law_498 rfl ?_
  refine gb_iload_n d_L_law_499 rfl ?_
  refine gb_iconst 2 d_L_law_500 rfl ?_
  refine gb_iadd d_L_law_501 ?_
  refine gb_riald (f := xs) (fun _ => hX) hi2 d_L_law_502 ?_
  refine gb_rload_n d_L_law_503 rfl ?_
  refine gb_iload_n d_L_law_504 rfl ?_
  refine gb_iconst 3 d_L_law_505 rfl ?_
  refine gb_iadd d_L_law_506 ?_
  refine gb_riald (f := xs) (fun _ => hX) hi3 d_L_law_507 ?_
  refine gb_rload_n d_L_law_508 rfl ?_
  refine gb_iload_n d_L_law_509 rfl ?_
  refine gb_iconst 4 d_L_law_510 rfl ?_
  refine gb_iadd d_L_law_511 ?_
  refine gb_riald (f := xs) (fun _ => hX) hi4 d_L_law_512 ?_
  refine gb_rload_n d_L_law_513 rfl ?_
  refine gb_iload_n d_L_law_514 rfl ?_
  refine gb_iconst 5 d_L_law_515 rfl ?_
  refine gb_iadd d_L_law_516 ?_
  refine gb_riald (f := xs) (fun _ => hX) hi5 d_L_law_517 ?_
  refine gb_cVi (As := [.int (xs (x3 + 1).toNatClampNeg), .int (xs (x3 + 2).toNatClampNeg), .int (xs (x3 + 3).toNatClampNeg), .int (xs (x3 + 4).toNatClampNeg), .int (xs (x3 + 5).toNatClampNeg)]) (rest := [.int o1.2]) m_L_48 (t_X11_feed (Γ := Γ) hS e2) (hS 77 _ rfl) rfl (Nat.le_of_ble_eq_true rfl) rfl rfl (Nat.le_of_ble_eq_true rfl) d_L_law_518 ?_
  refine gb_icmp_eq 1308 d_L_law_521 (by decide) (fun _ => ?_) (fun hc => absurd (er) hc)
  exact hN _ _ hI2
set_option maxRecDepth 100000 in
set_option maxHeartbeats 4000000 in
theorem lc_end {Γ : gb_X} {I : List gb_Sh → gb_G → Prop} {Lz : Nat} {xs : Nat → Int32} {Q : gb_P} {kc ks : Nat} {sh : List gb_Sh} {g : gb_G} {x3 : Int32} (hX : va_T .int (Γ.2.2.2.2 0) Lz (fun k => .int (xs k)) (fun q => gb_sz Γ ≤ q) Γ.2.2.2.1 Γ.2.2.2.1.heap) (hi1 : vp_in (x3 + 1) Lz) (hi2 : vp_in (x3 + 2) Lz) (hi3 : vp_in (x3 + 3) Lz) (hi4 : vp_in (x3 + 4) Lz) (hi5 : vp_in (x3 + 5) Lz) (hS : gb_S sh) (hI : I sh g) (hp : ps_end I) (hN : ∀ (sh : List gb_Sh) (g : gb_G), I sh g → gb_J Γ M_L_law 500 Q kc ks sh g 1308 [(0, .retAddr 0), (1, .ref 0), (2, .ref 77), (3, .int x3)] []) : gb_J Γ M_L_law 500 Q (kc + 6) (ks + 869) sh g 526 [(0, .retAddr 0), (1, .ref 0), (2, .ref 77), (3, .int x3)] [] := by
  obtain ⟨o1, o2, e1, e2, er, hI2⟩ := hp sh g (xs (x3 + 1).toNatClampNeg) hI
  refine gb_J.mono (Nat.le_add_right kc 6) (Nat.le_add_right ks 869) ?_
  refine gb_aload_n d_L_law_526 rfl ?_
  refine gb_rload_n d_L_law_527 rfl ?_
  refine gb_iload_n d_L_law_528 rfl ?_
  refine gb_iconst 1 d_L_law_529 rfl ?_
  refine gb_iadd d_L_law_530 ?_
  refine gb_riald (f := xs) (fun _ => hX) hi1 d_L_law_531 ?_
  refine gb_cVi (As := [.int (xs (x3 + 1).toNatClampNeg)]) (rest := []) m_L_49 (t_X10_end (Γ := Γ) hS e1) (hS 0 _ rfl) rfl (Nat.le_of_ble_eq_true rfl) rfl rfl (Nat.le_of_ble_eq_true rfl) d_L_law_532 ?_
  refine gb_aload_n d_L_law_535 rfl ?_
  refine gb_rload_n d_L_law_536 rfl ?_
  refine gb_iload_n d_L_law_537 rfl ?_
  refine gb_iconst 1 d_L_law_538 rfl ?_
  refine gb_iadd d_L_law_539 ?_
  refine gb_riald (f := xs) (fun _ => hX) hi1 d_L_law_540 ?_
  refine gb_cVi (As := [.int (xs (x3 + 1).toNatClampNeg)]) (rest := [.int o1.2]) m_L_53 (t_X11_end (Γ := Γ) hS e2) (hS 77 _ rfl) rfl (Nat.le_of_ble_eq_true rfl) rfl rfl (Nat.le_of_ble_eq_true rfl) d_L_law_541 ?_
  refine gb_icmp_eq 1308 d_L_law_544 (by decide) (fun _ => ?_) (fun hc => absurd (er) hc)
  exact hN _ _ hI2
set_option maxRecDepth 100000 in
set_option maxHeartbeats 4000000 in
theorem lc_row {Γ : gb_X} {I : List gb_Sh → gb_G → Prop} {Lz : Nat} {xs : Nat → Int32} {Q : gb_P} {kc ks : Nat} {sh : List gb_Sh} {g : gb_G} {x3 : Int32} (hX : va_T .int (Γ.2.2.2.2 0) Lz (fun k => .int (xs k)) (fun q => gb_sz Γ ≤ q) Γ.2.2.2.1 Γ.2.2.2.1.heap) (hi1 : vp_in (x3 + 1) Lz) (hi2 : vp_in (x3 + 2) Lz) (hi3 : vp_in (x3 + 3) Lz) (hi4 : vp_in (x3 + 4) Lz) (hi5 : vp_in (x3 + 5) Lz) (hS : gb_S sh) (hI : I sh g) (hp : ps_row I) (hN : ∀ (sh : List gb_Sh) (g : gb_G), I sh g → gb_J Γ M_L_law 500 Q kc ks sh g 1308 [(0, .retAddr 0), (1, .ref 0), (2, .ref 77), (3, .int x3)] []) : gb_J Γ M_L_law 500 Q (kc + 6) (ks + 869) sh g 549 [(0, .retAddr 0), (1, .ref 0), (2, .ref 77), (3, .int x3)] [] := by
  obtain ⟨o1, o2, e1, e2, er, hI2⟩ := hp sh g hI
  refine gb_J.mono (Nat.le_add_right kc 6) (Nat.le_add_right ks 869) ?_
  refine gb_aload_n d_L_law_549 rfl ?_
  refine gb_cVi (As := []) (rest := []) m_L_54 (t_X10_row (Γ := Γ) hS e1) (hS 0 _ rfl) rfl (Nat.le_of_ble_eq_true rfl) rfl rfl (Nat.le_of_ble_eq_true rfl) d_L_law_550 ?_
  refine gb_aload_n d_L_law_553 rfl ?_
  refine gb_cVi (As := []) (rest := [.int o1.2]) m_L_57 (t_X11_row (Γ := Γ) hS e2) (hS 77 _ rfl) rfl (Nat.le_of_ble_eq_true rfl) rfl rfl (Nat.le_of_ble_eq_true rfl) d_L_law_554 ?_
  refine gb_icmp_eq 1308 d_L_law_557 (by decide) (fun _ => ?_) (fun hc => absurd (er) hc)
  exact hN _ _ hI2
set_option maxRecDepth 100000 in
set_option maxHeartbeats 4000000 in
theorem lc_commas {Γ : gb_X} {I : List gb_Sh → gb_G → Prop} {Lz : Nat} {xs : Nat → Int32} {Q : gb_P} {kc ks : Nat} {sh : List gb_Sh} {g : gb_G} {x3 : Int32} (hX : va_T .int (Γ.2.2.2.2 0) Lz (fun k => .int (xs k)) (fun q => gb_sz Γ ≤ q) Γ.2.2.2.1 Γ.2.2.2.1.heap) (hi1 : vp_in (x3 + 1) Lz) (hi2 : vp_in (x3 + 2) Lz) (hi3 : vp_in (x3 + 3) Lz) (hi4 : vp_in (x3 + 4) Lz) (hi5 : vp_in (x3 + 5) Lz) (hS : gb_S sh) (hI : I sh g) (hp : ps_commas I) (hN : ∀ (sh : List gb_Sh) (g : gb_G), I sh g → gb_J Γ M_L_law 500 Q kc ks sh g 1308 [(0, .retAddr 0), (1, .ref 0), (2, .ref 77), (3, .int x3)] []) : gb_J Γ M_L_law 500 Q (kc + 6) (ks + 869) sh g 562 [(0, .retAddr 0), (1, .ref 0), (2, .ref 77), (3, .int x3)] [] := by
  obtain ⟨o1, o2, e1, e2, er, hI2⟩ := hp sh g hI
  refine gb_J.mono (Nat.le_add_right kc 6) (Nat.le_add_right ks 869) ?_
  refine gb_aload_n d_L_law_562 rfl ?_
  refine gb_cVi (As := []) (rest := []) m_L_58 (t_X10_commas (Γ := Γ) hS e1) (hS 0 _ rfl) rfl (Nat.le_of_ble_eq_true rfl) rfl rfl (Nat.le_of_ble_eq_true rfl) d_L_law_563 ?_
  refine gb_aload_n d_L_law_566 rfl ?_
  refine gb_cVi (As := []) (rest := [.int o1.2]) m_L_61 (t_X11_commas (Γ := Γ) hS e2) (hS 77 _ rfl) rfl (Nat.le_of_ble_eq_true rfl) rfl rfl (Nat.le_of_ble_eq_true rfl) d_L_law_567 ?_
  refine gb_icmp_eq 1308 d_L_law_570 (by decide) (fun _ => ?_) (fun hc => absurd (er) hc)
  exact hN _ _ hI2
set_option maxRecDepth 100000 in
set_option maxHeartbeats 4000000 in
theorem lc_law {Γ : gb_X} {I : List gb_Sh → gb_G → Prop} {Lz : Nat} {xs : Nat → Int32} {Q : gb_P} {kc ks : Nat} {sh : List gb_Sh} {g : gb_G} {x3 : Int32} (hX : va_T .int (Γ.2.2.2.2 0) Lz (fun k => .int (xs k)) (fun q => gb_sz Γ ≤ q) Γ.2.2.2.1 Γ.2.2.2.1.heap) (hi1 : vp_in (x3 + 1) Lz) (hi2 : vp_in (x3 + 2) Lz) (hi3 : vp_in (x3 + 3) Lz) (hi4 : vp_in (x3 + 4) Lz) (hi5 : vp_in (x3 + 5) Lz) (hS : gb_S sh) (hI : I sh g) (h105 : 105 ≤ sh.length) (hp : ps_law I) (hN : ∀ (sh : List gb_Sh) (g : gb_G), I sh g → gb_J Γ M_L_law 500 Q kc ks sh g 1308 [(0, .retAddr 0), (1, .ref 0), (2, .ref 77), (3, .int x3)] []) : gb_J Γ M_L_law 500 Q (kc + 6) (ks + 869) sh g 575 [(0, .retAddr 0), (1, .ref 0), (2, .ref 77), (3, .int x3)] [] := by
  rcases hp sh g hI with ⟨hf, o1, o2, e1, e2, er, hI2⟩ | ⟨hf, r, e0, hb, o1, o2, e1, e2, er, hI2⟩ | ⟨hf, r, n, m, k, e0, hb, hn, hm, hk, h0, h3, h7, h17, hI2⟩
  · refine gb_aload_n d_L_law_575 rfl ?_
    refine gb_cV (kc' := 6) (ks' := 869) (n := 0) (As := []) (rest := []) m_L_62 (t_X10_law_full (Γ := Γ) hS hf e1) (hS 0 _ rfl) rfl (Nat.le_of_ble_eq_true rfl) (Nat.le_add_left _ _) (Nat.le_add_left _ _) rfl rfl (Nat.le_of_ble_eq_true rfl) d_L_law_576 (fun sh' g' v hq => ?_)
    obtain ⟨rfl, rfl, rfl⟩ := hq
    refine (show gb_J Γ M_L_law 500 Q kc ks sh' o1.1 579 [(0, .retAddr 0), (1, .ref 0), (2, .ref 77), (3, .int x3)] [.int o1.2] → _ from fun h => gb_J.mono (Nat.le_of_eq (Nat.add_sub_cancel kc 6).symm) (Nat.le_of_eq (Nat.add_sub_cancel ks 869).symm) h) ?_
    refine gb_aload_n d_L_law_579 rfl ?_
    refine gb_cVi (As := []) (rest := [.int o1.2]) m_L_65 (t_X11_law (Γ := Γ) hS e2) (hS 77 _ rfl) rfl (Nat.le_of_ble_eq_true rfl) rfl rfl (Nat.le_of_ble_eq_true rfl) d_L_law_580 ?_
    refine gb_icmp_eq 1308 d_L_law_583 (by decide) (fun _ => ?_) (fun hc => absurd (er) hc)
    exact hN _ _ hI2
  · refine gb_aload_n d_L_law_575 rfl ?_
    refine gb_cV (kc' := 6) (ks' := 869) (n := 0) (As := []) (rest := []) m_L_62 (t_X10_law_bad (Γ := Γ) hS hf e0 hb e1) (hS 0 _ rfl) rfl (Nat.le_of_ble_eq_true rfl) (Nat.le_add_left _ _) (Nat.le_add_left _ _) rfl rfl (Nat.le_of_ble_eq_true rfl) d_L_law_576 (fun sh' g' v hq => ?_)
    obtain ⟨rfl, rfl, rfl⟩ := hq
    refine (show gb_J Γ M_L_law 500 Q kc ks sh' o1.1 579 [(0, .retAddr 0), (1, .ref 0), (2, .ref 77), (3, .int x3)] [.int o1.2] → _ from fun h => gb_J.mono (Nat.le_of_eq (Nat.add_sub_cancel kc 6).symm) (Nat.le_of_eq (Nat.add_sub_cancel ks 869).symm) h) ?_
    refine gb_aload_n d_L_law_579 rfl ?_
    refine gb_cVi (As := []) (rest := [.int o1.2]) m_L_65 (t_X11_law (Γ := Γ) hS e2) (hS 77 _ rfl) rfl (Nat.le_of_ble_eq_true rfl) rfl rfl (Nat.le_of_ble_eq_true rfl) d_L_law_580 ?_
    refine gb_icmp_eq 1308 d_L_law_583 (by decide) (fun _ => ?_) (fun hc => absurd (er) hc)
    exact hN _ _ hI2
  · refine gb_aload_n d_L_law_575 rfl ?_
    refine gb_cV (kc' := 6) (ks' := 869) (n := 0) (As := []) (rest := []) m_L_62 (t_X10_law_new (Γ := Γ) hS rfl h105 hf e0 hb hn hm hk h0 h3 h7 h17) (hS 0 _ rfl) rfl (Nat.le_of_ble_eq_true rfl) (Nat.le_add_left _ _) (Nat.le_add_left _ _) rfl rfl (Nat.le_of_ble_eq_true rfl) d_L_law_576 (fun sh' g' v hq => ?_)
    obtain ⟨g2, rfl, hnew, rfl, rfl⟩ := hq
    obtain ⟨o2, e2, er, hI3⟩ := hI2 g2 hnew
    have hS3 : gb_S (sh ++ gb_lawcells sh.length n m) := hS.app
    refine (show gb_J Γ M_L_law 500 Q kc ks (sh ++ gb_lawcells sh.length n m) (gb_pi (gb_pr (gb_pi g2 1 7 (Int32.ofNat (k + 1))) 6 k (some sh.length)) 0 18 0) 579 [(0, .retAddr 0), (1, .ref 0), (2, .ref 77), (3, .int x3)] [.int (Int32.ofNat k)] → _ from fun h => gb_J.mono (Nat.le_of_eq (Nat.add_sub_cancel kc 6).symm) (Nat.le_of_eq (Nat.add_sub_cancel ks 869).symm) h) ?_
    refine gb_aload_n d_L_law_579 rfl ?_
    refine gb_cVi (As := []) (rest := [.int (Int32.ofNat k)]) m_L_65 (t_X11_law (Γ := Γ) hS3 e2) (hS3 77 _ rfl) rfl (Nat.le_of_ble_eq_true rfl) rfl rfl (Nat.le_of_ble_eq_true rfl) d_L_law_580 ?_
    refine gb_icmp_eq 1308 d_L_law_583 (by decide) (fun _ => ?_) (fun hc => absurd (er) hc)
    exact hN _ _ hI3
set_option maxRecDepth 100000 in
set_option maxHeartbeats 4000000 in
theorem lc_orders {Γ : gb_X} {I : List gb_Sh → gb_G → Prop} {Lz : Nat} {xs : Nat → Int32} {Q : gb_P} {kc ks : Nat} {sh : List gb_Sh} {g : gb_G} {x3 : Int32} (hX : va_T .int (Γ.2.2.2.2 0) Lz (fun k => .int (xs k)) (fun q => gb_sz Γ ≤ q) Γ.2.2.2.1 Γ.2.2.2.1.heap) (hi1 : vp_in (x3 + 1) Lz) (hi2 : vp_in (x3 + 2) Lz) (hi3 : vp_in (x3 + 3) Lz) (hi4 : vp_in (x3 + 4) Lz) (hi5 : vp_in (x3 + 5) Lz) (hS : gb_S sh) (hI : I sh g) (hp : ps_orders I) (hN : ∀ (sh : List gb_Sh) (g : gb_G), I sh g → gb_J Γ M_L_law 500 Q kc ks sh g 1308 [(0, .retAddr 0), (1, .ref 0), (2, .ref 77), (3, .int x3)] []) : gb_J Γ M_L_law 500 Q (kc + 6) (ks + 869) sh g 588 [(0, .retAddr 0), (1, .ref 0), (2, .ref 77), (3, .int x3)] [] := by
  obtain ⟨o1, o2, e1, e2, er, hI2⟩ := hp sh g hI
  refine gb_J.mono (Nat.le_add_right kc 6) (Nat.le_add_right ks 869) ?_
  refine gb_aload_n d_L_law_588 rfl ?_
  refine gb_cVi (As := []) (rest := []) m_L_66 (t_X10_orders (Γ := Γ) hS e1) (hS 0 _ rfl) rfl (Nat.le_of_ble_eq_true rfl) rfl rfl (Nat.le_of_ble_eq_true rfl) d_L_law_589 ?_
  refine gb_aload_n d_L_law_592 rfl ?_
  refine gb_cVi (As := []) (rest := [.int o1.2]) m_L_69 (t_X11_orders (Γ := Γ) hS e2) (hS 77 _ rfl) rfl (Nat.le_of_ble_eq_true rfl) rfl rfl (Nat.le_of_ble_eq_true rfl) d_L_law_593 ?_
  refine gb_icmp_eq 1308 d_L_law_596 (by decide) (fun _ => ?_) (fun hc => absurd (er) hc)
  exact hN _ _ hI2
set_option maxRecDepth 100000 in
set_option maxHeartbeats 4000000 in
theorem lc_fault {Γ : gb_X} {I : List gb_Sh → gb_G → Prop} {Lz : Nat} {xs : Nat → Int32} {Q : gb_P} {kc ks : Nat} {sh : List gb_Sh} {g : gb_G} {x3 : Int32} (hX : va_T .int (Γ.2.2.2.2 0) Lz (fun k => .int (xs k)) (fun q => gb_sz Γ ≤ q) Γ.2.2.2.1 Γ.2.2.2.1.heap) (hi1 : vp_in (x3 + 1) Lz) (hi2 : vp_in (x3 + 2) Lz) (hi3 : vp_in (x3 + 3) Lz) (hi4 : vp_in (x3 + 4) Lz) (hi5 : vp_in (x3 + 5) Lz) (hS : gb_S sh) (hI : I sh g) (hp : ps_fault I) (hN : ∀ (sh : List gb_Sh) (g : gb_G), I sh g → gb_J Γ M_L_law 500 Q kc ks sh g 1308 [(0, .retAddr 0), (1, .ref 0), (2, .ref 77), (3, .int x3)] []) : gb_J Γ M_L_law 500 Q (kc + 6) (ks + 869) sh g 601 [(0, .retAddr 0), (1, .ref 0), (2, .ref 77), (3, .int x3)] [] := by
  obtain ⟨o1, o2, e1, e2, er, hI2⟩ := hp sh g hI
  refine gb_J.mono (Nat.le_add_right kc 6) (Nat.le_add_right ks 869) ?_
  refine gb_aload_n d_L_law_601 rfl ?_
  refine gb_cVi (As := []) (rest := []) m_L_70 (t_X10_fault (Γ := Γ) hS e1) (hS 0 _ rfl) rfl (Nat.le_of_ble_eq_true rfl) rfl rfl (Nat.le_of_ble_eq_true rfl) d_L_law_602 ?_
  refine gb_aload_n d_L_law_605 rfl ?_
  refine gb_cVi (As := []) (rest := [.int o1.2]) m_L_73 (t_X11_fault (Γ := Γ) hS e2) (hS 77 _ rfl) rfl (Nat.le_of_ble_eq_true rfl) rfl rfl (Nat.le_of_ble_eq_true rfl) d_L_law_606 ?_
  refine gb_icmp_eq 1308 d_L_law_609 (by decide) (fun _ => ?_) (fun hc => absurd (er) hc)
  exact hN _ _ hI2
set_option maxRecDepth 100000 in
set_option maxHeartbeats 4000000 in
theorem lc_stopped {Γ : gb_X} {I : List gb_Sh → gb_G → Prop} {Lz : Nat} {xs : Nat → Int32} {Q : gb_P} {kc ks : Nat} {sh : List gb_Sh} {g : gb_G} {x3 : Int32} (hX : va_T .int (Γ.2.2.2.2 0) Lz (fun k => .int (xs k)) (fun q => gb_sz Γ ≤ q) Γ.2.2.2.1 Γ.2.2.2.1.heap) (hi1 : vp_in (x3 + 1) Lz) (hi2 : vp_in (x3 + 2) Lz) (hi3 : vp_in (x3 + 3) Lz) (hi4 : vp_in (x3 + 4) Lz) (hi5 : vp_in (x3 + 5) Lz) (hS : gb_S sh) (hI : I sh g) (hp : ps_stopped I) (hN : ∀ (sh : List gb_Sh) (g : gb_G), I sh g → gb_J Γ M_L_law 500 Q kc ks sh g 1308 [(0, .retAddr 0), (1, .ref 0), (2, .ref 77), (3, .int x3)] []) : gb_J Γ M_L_law 500 Q (kc + 6) (ks + 869) sh g 614 [(0, .retAddr 0), (1, .ref 0), (2, .ref 77), (3, .int x3)] [] := by
  obtain ⟨o1, o2, e1, e2, er, hI2⟩ := hp sh g hI
  refine gb_J.mono (Nat.le_add_right kc 6) (Nat.le_add_right ks 869) ?_
  refine gb_aload_n d_L_law_614 rfl ?_
  refine gb_cVi (As := []) (rest := []) m_L_74 (t_X10_stopped (Γ := Γ) hS e1) (hS 0 _ rfl) rfl (Nat.le_of_ble_eq_true rfl) rfl rfl (Nat.le_of_ble_eq_true rfl) d_L_law_615 ?_
  refine gb_aload_n d_L_law_618 rfl ?_
  refine gb_cVi (As := []) (rest := [.int o1.2]) m_L_77 (t_X11_stopped (Γ := Γ) hS e2) (hS 77 _ rfl) rfl (Nat.le_of_ble_eq_true rfl) rfl rfl (Nat.le_of_ble_eq_true rfl) d_L_law_619 ?_
  refine gb_icmp_eq 1308 d_L_law_622 (by decide) (fun _ => ?_) (fun hc => absurd (er) hc)
  exact hN _ _ hI2
set_option maxRecDepth 100000 in
set_option maxHeartbeats 4000000 in
theorem lc_force {Γ : gb_X} {I : List gb_Sh → gb_G → Prop} {Lz : Nat} {xs : Nat → Int32} {Q : gb_P} {kc ks : Nat} {sh : List gb_Sh} {g : gb_G} {x3 : Int32} (hX : va_T .int (Γ.2.2.2.2 0) Lz (fun k => .int (xs k)) (fun q => gb_sz Γ ≤ q) Γ.2.2.2.1 Γ.2.2.2.1.heap) (hi1 : vp_in (x3 + 1) Lz) (hi2 : vp_in (x3 + 2) Lz) (hi3 : vp_in (x3 + 3) Lz) (hi4 : vp_in (x3 + 4) Lz) (hi5 : vp_in (x3 + 5) Lz) (hS : gb_S sh) (hI : I sh g) (hp : ps_force I) (hN : ∀ (sh : List gb_Sh) (g : gb_G), I sh g → gb_J Γ M_L_law 500 Q kc ks sh g 1308 [(0, .retAddr 0), (1, .ref 0), (2, .ref 77), (3, .int x3)] []) : gb_J Γ M_L_law 500 Q (kc + 6) (ks + 869) sh g 627 [(0, .retAddr 0), (1, .ref 0), (2, .ref 77), (3, .int x3)] [] := by
  obtain ⟨o1, o2, e1, e2, er, hI2⟩ := hp sh g (xs (x3 + 1).toNatClampNeg) hI
  refine gb_J.mono (Nat.le_add_right kc 6) (Nat.le_add_right ks 869) ?_
  refine gb_aload_n d_L_law_627 rfl ?_
  refine gb_rload_n d_L_law_628 rfl ?_
  refine gb_iload_n d_L_law_629 rfl ?_
  refine gb_iconst 1 d_L_law_630 rfl ?_
  refine gb_iadd d_L_law_631 ?_
  refine gb_riald (f := xs) (fun _ => hX) hi1 d_L_law_632 ?_
  refine gb_cVi (As := [.int (xs (x3 + 1).toNatClampNeg)]) (rest := []) m_L_78 (t_X10_force (Γ := Γ) hS e1) (hS 0 _ rfl) rfl (Nat.le_of_ble_eq_true rfl) rfl rfl (Nat.le_of_ble_eq_true rfl) d_L_law_633 ?_
  refine gb_aload_n d_L_law_636 rfl ?_
  refine gb_rload_n d_L_law_637 rfl ?_
  refine gb_iload_n d_L_law_638 rfl ?_
  refine gb_iconst 1 d_L_law_639 rfl ?_
  refine gb_iadd d_L_law_640 ?_
  refine gb_riald (f := xs) (fun _ => hX) hi1 d_L_law_641 ?_
  refine gb_cVi (As := [.int (xs (x3 + 1).toNatClampNeg)]) (rest := [.int o1.2]) m_L_81 (t_X11_force (Γ := Γ) hS e2) (hS 77 _ rfl) rfl (Nat.le_of_ble_eq_true rfl) rfl rfl (Nat.le_of_ble_eq_true rfl) d_L_law_642 ?_
  refine gb_icmp_eq 1308 d_L_law_645 (by decide) (fun _ => ?_) (fun hc => absurd (er) hc)
  exact hN _ _ hI2
set_option maxRecDepth 100000 in
set_option maxHeartbeats 4000000 in
theorem lc_lack {Γ : gb_X} {I : List gb_Sh → gb_G → Prop} {Lz : Nat} {xs : Nat → Int32} {Q : gb_P} {kc ks : Nat} {sh : List gb_Sh} {g : gb_G} {x3 : Int32} (hX : va_T .int (Γ.2.2.2.2 0) Lz (fun k => .int (xs k)) (fun q => gb_sz Γ ≤ q) Γ.2.2.2.1 Γ.2.2.2.1.heap) (hi1 : vp_in (x3 + 1) Lz) (hi2 : vp_in (x3 + 2) Lz) (hi3 : vp_in (x3 + 3) Lz) (hi4 : vp_in (x3 + 4) Lz) (hi5 : vp_in (x3 + 5) Lz) (hS : gb_S sh) (hI : I sh g) (hp : ps_lack I) (hN : ∀ (sh : List gb_Sh) (g : gb_G), I sh g → gb_J Γ M_L_law 500 Q kc ks sh g 1308 [(0, .retAddr 0), (1, .ref 0), (2, .ref 77), (3, .int x3)] []) : gb_J Γ M_L_law 500 Q (kc + 6) (ks + 869) sh g 650 [(0, .retAddr 0), (1, .ref 0), (2, .ref 77), (3, .int x3)] [] := by
  obtain ⟨o1, o2, e1, e2, er, hI2⟩ := hp sh g (xs (x3 + 1).toNatClampNeg) hI
  refine gb_J.mono (Nat.le_add_right kc 6) (Nat.le_add_right ks 869) ?_
  refine gb_aload_n d_L_law_650 rfl ?_
  refine gb_rload_n d_L_law_651 rfl ?_
  refine gb_iload_n d_L_law_652 rfl ?_
  refine gb_iconst 1 d_L_law_653 rfl ?_
  refine gb_iadd d_L_law_654 ?_
  refine gb_riald (f := xs) (fun _ => hX) hi1 d_L_law_655 ?_
  refine gb_cVi (As := [.int (xs (x3 + 1).toNatClampNeg)]) (rest := []) m_L_82 (t_X10_lack (Γ := Γ) hS e1) (hS 0 _ rfl) rfl (Nat.le_of_ble_eq_true rfl) rfl rfl (Nat.le_of_ble_eq_true rfl) d_L_law_656 ?_
  refine gb_aload_n d_L_law_659 rfl ?_
  refine gb_rload_n d_L_law_660 rfl ?_
  refine gb_iload_n d_L_law_661 rfl ?_
  refine gb_iconst 1 d_L_law_662 rfl ?_
  refine gb_iadd d_L_law_663 ?_
  refine gb_riald (f := xs) (fun _ => hX) hi1 d_L_law_664 ?_
  refine gb_cVi (As := [.int (xs (x3 + 1).toNatClampNeg)]) (rest := [.int o1.2]) m_L_85 (t_X11_lack (Γ := Γ) hS e2) (hS 77 _ rfl) rfl (Nat.le_of_ble_eq_true rfl) rfl rfl (Nat.le_of_ble_eq_true rfl) d_L_law_665 ?_
  refine gb_icmp_eq 1308 d_L_law_668 (by decide) (fun _ => ?_) (fun hc => absurd (er) hc)
  exact hN _ _ hI2
set_option maxRecDepth 100000 in
set_option maxHeartbeats 4000000 in
theorem lc_find {Γ : gb_X} {I : List gb_Sh → gb_G → Prop} {Lz : Nat} {xs : Nat → Int32} {Q : gb_P} {kc ks : Nat} {sh : List gb_Sh} {g : gb_G} {x3 : Int32} (hX : va_T .int (Γ.2.2.2.2 0) Lz (fun k => .int (xs k)) (fun q => gb_sz Γ ≤ q) Γ.2.2.2.1 Γ.2.2.2.1.heap) (hi1 : vp_in (x3 + 1) Lz) (hi2 : vp_in (x3 + 2) Lz) (hi3 : vp_in (x3 + 3) Lz) (hi4 : vp_in (x3 + 4) Lz) (hi5 : vp_in (x3 + 5) Lz) (hS : gb_S sh) (hI : I sh g) (hp : ps_find I) (hN : ∀ (sh : List gb_Sh) (g : gb_G), I sh g → gb_J Γ M_L_law 500 Q kc ks sh g 1308 [(0, .retAddr 0), (1, .ref 0), (2, .ref 77), (3, .int x3)] []) : gb_J Γ M_L_law 500 Q (kc + 6) (ks + 869) sh g 673 [(0, .retAddr 0), (1, .ref 0), (2, .ref 77), (3, .int x3)] [] := by
  obtain ⟨o1, o2, e1, e2, er, hI2⟩ := hp sh g (xs (x3 + 1).toNatClampNeg) hI
  refine gb_J.mono (Nat.le_add_right kc 6) (Nat.le_add_right ks 869) ?_
  refine gb_aload_n d_L_law_673 rfl ?_
  refine gb_rload_n d_L_law_674 rfl ?_
  refine gb_iload_n d_L_law_675 rfl ?_
  refine gb_iconst 1 d_L_law_676 rfl ?_
  refine gb_iadd d_L_law_677 ?_
  refine gb_riald (f := xs) (fun _ => hX) hi1 d_L_law_678 ?_
  refine gb_cVi (As := [.int (xs (x3 + 1).toNatClampNeg)]) (rest := []) m_L_86 (t_X10_find (Γ := Γ) hS e1) (hS 0 _ rfl) rfl (Nat.le_of_ble_eq_true rfl) rfl rfl (Nat.le_of_ble_eq_true rfl) d_L_law_679 ?_
  refine gb_aload_n d_L_law_682 rfl ?_
  refine gb_rload_n d_L_law_683 rfl ?_
  refine gb_iload_n d_L_law_684 rfl ?_
  refine gb_iconst 1 d_L_law_685 rfl ?_
  refine gb_iadd d_L_law_686 ?_
  refine gb_riald (f := xs) (fun _ => hX) hi1 d_L_law_687 ?_
  refine gb_cVi (As := [.int (xs (x3 + 1).toNatClampNeg)]) (rest := [.int o1.2]) m_L_89 (t_X11_find (Γ := Γ) hS e2) (hS 77 _ rfl) rfl (Nat.le_of_ble_eq_true rfl) rfl rfl (Nat.le_of_ble_eq_true rfl) d_L_law_688 ?_
  refine gb_icmp_eq 1308 d_L_law_691 (by decide) (fun _ => ?_) (fun hc => absurd (er) hc)
  exact hN _ _ hI2
set_option maxRecDepth 100000 in
set_option maxHeartbeats 4000000 in
theorem lc_weigh {Γ : gb_X} {I : List gb_Sh → gb_G → Prop} {Lz : Nat} {xs : Nat → Int32} {Q : gb_P} {kc ks : Nat} {sh : List gb_Sh} {g : gb_G} {x3 : Int32} (hX : va_T .int (Γ.2.2.2.2 0) Lz (fun k => .int (xs k)) (fun q => gb_sz Γ ≤ q) Γ.2.2.2.1 Γ.2.2.2.1.heap) (hi1 : vp_in (x3 + 1) Lz) (hi2 : vp_in (x3 + 2) Lz) (hi3 : vp_in (x3 + 3) Lz) (hi4 : vp_in (x3 + 4) Lz) (hi5 : vp_in (x3 + 5) Lz) (hS : gb_S sh) (hI : I sh g) (hp : ps_weigh I) (hN : ∀ (sh : List gb_Sh) (g : gb_G), I sh g → gb_J Γ M_L_law 500 Q kc ks sh g 1308 [(0, .retAddr 0), (1, .ref 0), (2, .ref 77), (3, .int x3)] []) : gb_J Γ M_L_law 500 Q (kc + 6) (ks + 869) sh g 696 [(0, .retAddr 0), (1, .ref 0), (2, .ref 77), (3, .int x3)] [] := by
  obtain ⟨o1, o2, e1, e2, er, hI2⟩ := hp sh g (xs (x3 + 1).toNatClampNeg) (xs (x3 + 2).toNatClampNeg) hI
  refine gb_J.mono (Nat.le_add_right kc 6) (Nat.le_add_right ks 869) ?_
  refine gb_aload_n d_L_law_696 rfl ?_
  refine gb_rload_n d_L_law_697 rfl ?_
  refine gb_iload_n d_L_law_698 rfl ?_
  refine gb_iconst 1 d_L_law_699 rfl ?_
  refine gb_iadd d_L_law_700 ?_
  refine gb_riald (f := xs) (fun _ => hX) hi1 d_L_law_701 ?_
  refine gb_rload_n d_L_law_702 rfl ?_
  refine gb_iload_n d_L_law_703 rfl ?_
  refine gb_iconst 2 d_L_law_704 rfl ?_
  refine gb_iadd d_L_law_705 ?_
  refine gb_riald (f := xs) (fun _ => hX) hi2 d_L_law_706 ?_
  refine gb_cVi (As := [.int (xs (x3 + 1).toNatClampNeg), .int (xs (x3 + 2).toNatClampNeg)]) (rest := []) m_L_90 (t_X10_weigh (Γ := Γ) hS e1) (hS 0 _ rfl) rfl (Nat.le_of_ble_eq_true rfl) rfl rfl (Nat.le_of_ble_eq_true rfl) d_L_law_707 ?_
  refine gb_aload_n d_L_law_710 rfl ?_
  refine gb_rload_n d_L_law_711 rfl ?_
  refine gb_iload_n d_L_law_712 rfl ?_
  refine gb_iconst 1 d_L_law_713 rfl ?_
  refine gb_iadd d_L_law_714 ?_
  refine gb_riald (f := xs) (fun _ => hX) hi1 d_L_law_715 ?_
  refine gb_rload_n d_L_law_716 rfl ?_
  refine gb_iload_n d_L_law_717 rfl ?_
  refine gb_iconst 2 d_L_law_718 rfl ?_
  refine gb_iadd d_L_law_719 ?_
  refine gb_riald (f := xs) (fun _ => hX) hi2 d_L_law_720 ?_
  refine gb_cVi (As := [.int (xs (x3 + 1).toNatClampNeg), .int (xs (x3 + 2).toNatClampNeg)]) (rest := [.int o1.2]) m_L_93 (t_X11_weigh (Γ := Γ) hS e2) (hS 77 _ rfl) rfl (Nat.le_of_ble_eq_true rfl) rfl rfl (Nat.le_of_ble_eq_true rfl) d_L_law_721 ?_
  refine gb_icmp_eq 1308 d_L_law_724 (by decide) (fun _ => ?_) (fun hc => absurd (er) hc)
  exact hN _ _ hI2
set_option maxRecDepth 100000 in
set_option maxHeartbeats 4000000 in
theorem lc_pass {Γ : gb_X} {I : List gb_Sh → gb_G → Prop} {Lz : Nat} {xs : Nat → Int32} {Q : gb_P} {kc ks : Nat} {sh : List gb_Sh} {g : gb_G} {x3 : Int32} (hX : va_T .int (Γ.2.2.2.2 0) Lz (fun k => .int (xs k)) (fun q => gb_sz Γ ≤ q) Γ.2.2.2.1 Γ.2.2.2.1.heap) (hi1 : vp_in (x3 + 1) Lz) (hi2 : vp_in (x3 + 2) Lz) (hi3 : vp_in (x3 + 3) Lz) (hi4 : vp_in (x3 + 4) Lz) (hi5 : vp_in (x3 + 5) Lz) (hS : gb_S sh) (hI : I sh g) (hp : ps_pass I) (hN : ∀ (sh : List gb_Sh) (g : gb_G), I sh g → gb_J Γ M_L_law 500 Q kc ks sh g 1308 [(0, .retAddr 0), (1, .ref 0), (2, .ref 77), (3, .int x3)] []) : gb_J Γ M_L_law 500 Q (kc + 6) (ks + 869) sh g 729 [(0, .retAddr 0), (1, .ref 0), (2, .ref 77), (3, .int x3)] [] := by
  obtain ⟨o1, o2, e1, e2, er, hI2⟩ := hp sh g hI
  refine gb_J.mono (Nat.le_add_right kc 6) (Nat.le_add_right ks 869) ?_
  refine gb_aload_n d_L_law_729 rfl ?_
  refine gb_cVi (As := []) (rest := []) m_L_94 (t_X10_pass (Γ := Γ) hS e1) (hS 0 _ rfl) rfl (Nat.le_of_ble_eq_true rfl) rfl rfl (Nat.le_of_ble_eq_true rfl) d_L_law_730 ?_
  refine gb_aload_n d_L_law_733 rfl ?_
  refine gb_cVi (As := []) (rest := [.int o1.2]) m_L_97 (t_X11_pass (Γ := Γ) hS e2) (hS 77 _ rfl) rfl (Nat.le_of_ble_eq_true rfl) rfl rfl (Nat.le_of_ble_eq_true rfl) d_L_law_734 ?_
  refine gb_icmp_eq 1308 d_L_law_737 (by decide) (fun _ => ?_) (fun hc => absurd (er) hc)
  exact hN _ _ hI2
set_option maxRecDepth 100000 in
set_option maxHeartbeats 4000000 in
theorem lc_undo {Γ : gb_X} {I : List gb_Sh → gb_G → Prop} {Lz : Nat} {xs : Nat → Int32} {Q : gb_P} {kc ks : Nat} {sh : List gb_Sh} {g : gb_G} {x3 : Int32} (hX : va_T .int (Γ.2.2.2.2 0) Lz (fun k => .int (xs k)) (fun q => gb_sz Γ ≤ q) Γ.2.2.2.1 Γ.2.2.2.1.heap) (hi1 : vp_in (x3 + 1) Lz) (hi2 : vp_in (x3 + 2) Lz) (hi3 : vp_in (x3 + 3) Lz) (hi4 : vp_in (x3 + 4) Lz) (hi5 : vp_in (x3 + 5) Lz) (hS : gb_S sh) (hI : I sh g) (hp : ps_undo I) (hN : ∀ (sh : List gb_Sh) (g : gb_G), I sh g → gb_J Γ M_L_law 500 Q kc ks sh g 1308 [(0, .retAddr 0), (1, .ref 0), (2, .ref 77), (3, .int x3)] []) : gb_J Γ M_L_law 500 Q (kc + 6) (ks + 869) sh g 742 [(0, .retAddr 0), (1, .ref 0), (2, .ref 77), (3, .int x3)] [] := by
  obtain ⟨o1, o2, e1, e2, er, hI2⟩ := hp sh g hI
  refine gb_J.mono (Nat.le_add_right kc 6) (Nat.le_add_right ks 869) ?_
  refine gb_aload_n d_L_law_742 rfl ?_
  refine gb_cVi (As := []) (rest := []) m_L_98 (t_X10_undo (Γ := Γ) hS e1) (hS 0 _ rfl) rfl (Nat.le_of_ble_eq_true rfl) rfl rfl (Nat.le_of_ble_eq_true rfl) d_L_law_743 ?_
  refine gb_aload_n d_L_law_746 rfl ?_
  refine gb_cVi (As := []) (rest := [.int o1.2]) m_L_101 (t_X11_undo (Γ := Γ) hS e2) (hS 77 _ rfl) rfl (Nat.le_of_ble_eq_true rfl) rfl rfl (Nat.le_of_ble_eq_true rfl) d_L_law_747 ?_
  refine gb_icmp_eq 1308 d_L_law_750 (by decide) (fun _ => ?_) (fun hc => absurd (er) hc)
  exact hN _ _ hI2
set_option maxRecDepth 100000 in
set_option maxHeartbeats 4000000 in
theorem lc_figure {Γ : gb_X} {I : List gb_Sh → gb_G → Prop} {Lz : Nat} {xs : Nat → Int32} {Q : gb_P} {kc ks : Nat} {sh : List gb_Sh} {g : gb_G} {x3 : Int32} (hX : va_T .int (Γ.2.2.2.2 0) Lz (fun k => .int (xs k)) (fun q => gb_sz Γ ≤ q) Γ.2.2.2.1 Γ.2.2.2.1.heap) (hi1 : vp_in (x3 + 1) Lz) (hi2 : vp_in (x3 + 2) Lz) (hi3 : vp_in (x3 + 3) Lz) (hi4 : vp_in (x3 + 4) Lz) (hi5 : vp_in (x3 + 5) Lz) (hS : gb_S sh) (hI : I sh g) (hp : ps_figure I) (hN : ∀ (sh : List gb_Sh) (g : gb_G), I sh g → gb_J Γ M_L_law 500 Q kc ks sh g 1308 [(0, .retAddr 0), (1, .ref 0), (2, .ref 77), (3, .int x3)] []) : gb_J Γ M_L_law 500 Q (kc + 6) (ks + 869) sh g 755 [(0, .retAddr 0), (1, .ref 0), (2, .ref 77), (3, .int x3)] [] := by
  obtain ⟨o1, o2, e1, e2, er, hI2⟩ := hp sh g (xs (x3 + 1).toNatClampNeg) (xs (x3 + 2).toNatClampNeg) hI
  refine gb_J.mono (Nat.le_add_right kc 6) (Nat.le_add_right ks 869) ?_
  refine gb_aload_n d_L_law_755 rfl ?_
  refine gb_rload_n d_L_law_756 rfl ?_
  refine gb_iload_n d_L_law_757 rfl ?_
  refine gb_iconst 1 d_L_law_758 rfl ?_
  refine gb_iadd d_L_law_759 ?_
  refine gb_riald (f := xs) (fun _ => hX) hi1 d_L_law_760 ?_
  refine gb_rload_n d_L_law_761 rfl ?_
  refine gb_iload_n d_L_law_762 rfl ?_
  refine gb_iconst 2 d_L_law_763 rfl ?_
  refine gb_iadd d_L_law_764 ?_
  refine gb_riald (f := xs) (fun _ => hX) hi2 d_L_law_765 ?_
  refine gb_cVl (As := [.int (xs (x3 + 1).toNatClampNeg), .int (xs (x3 + 2).toNatClampNeg)]) (rest := []) m_L_102 (t_X10_figure (Γ := Γ) hS e1) (hS 0 _ rfl) rfl (Nat.le_of_ble_eq_true rfl) rfl rfl (Nat.le_of_ble_eq_true rfl) d_L_law_766 ?_
  refine gb_aload_n d_L_law_769 rfl ?_
  refine gb_rload_n d_L_law_770 rfl ?_
  refine gb_iload_n d_L_law_771 rfl ?_
  refine gb_iconst 1 d_L_law_772 rfl ?_
  refine gb_iadd d_L_law_773 ?_
  refine gb_riald (f := xs) (fun _ => hX) hi1 d_L_law_774 ?_
  refine gb_rload_n d_L_law_775 rfl ?_
  refine gb_iload_n d_L_law_776 rfl ?_
  refine gb_iconst 2 d_L_law_777 rfl ?_
  refine gb_iadd d_L_law_778 ?_
  refine gb_riald (f := xs) (fun _ => hX) hi2 d_L_law_779 ?_
  refine gb_cVl (As := [.int (xs (x3 + 1).toNatClampNeg), .int (xs (x3 + 2).toNatClampNeg)]) (rest := [.long o1.2]) m_L_106 (t_X11_figure (Γ := Γ) hS e2) (hS 77 _ rfl) rfl (Nat.le_of_ble_eq_true rfl) rfl rfl (Nat.le_of_ble_eq_true rfl) d_L_law_780 ?_
  refine gb_lcmp d_L_law_783 ?_
  refine gb_if_eq 1308 d_L_law_784 (by decide) (fun _ => ?_) (fun hc => absurd (gb_cmp0 er) hc)
  exact hN _ _ hI2
set_option maxRecDepth 100000 in
set_option maxHeartbeats 4000000 in
theorem lc_turned {Γ : gb_X} {I : List gb_Sh → gb_G → Prop} {Lz : Nat} {xs : Nat → Int32} {Q : gb_P} {kc ks : Nat} {sh : List gb_Sh} {g : gb_G} {x3 : Int32} (hX : va_T .int (Γ.2.2.2.2 0) Lz (fun k => .int (xs k)) (fun q => gb_sz Γ ≤ q) Γ.2.2.2.1 Γ.2.2.2.1.heap) (hi1 : vp_in (x3 + 1) Lz) (hi2 : vp_in (x3 + 2) Lz) (hi3 : vp_in (x3 + 3) Lz) (hi4 : vp_in (x3 + 4) Lz) (hi5 : vp_in (x3 + 5) Lz) (hS : gb_S sh) (hI : I sh g) (hp : ps_turned I) (hN : ∀ (sh : List gb_Sh) (g : gb_G), I sh g → gb_J Γ M_L_law 500 Q kc ks sh g 1308 [(0, .retAddr 0), (1, .ref 0), (2, .ref 77), (3, .int x3)] []) : gb_J Γ M_L_law 500 Q (kc + 6) (ks + 869) sh g 789 [(0, .retAddr 0), (1, .ref 0), (2, .ref 77), (3, .int x3)] [] := by
  obtain ⟨o1, o2, e1, e2, er, hI2⟩ := hp sh g (xs (x3 + 1).toNatClampNeg) (xs (x3 + 2).toNatClampNeg) hI
  refine gb_J.mono (Nat.le_add_right kc 6) (Nat.le_add_right ks 869) ?_
  refine gb_aload_n d_L_law_789 rfl ?_
  refine gb_rload_n d_L_law_790 rfl ?_
  refine gb_iload_n d_L_law_791 rfl ?_
  refine gb_iconst 1 d_L_law_792 rfl ?_
  refine gb_iadd d_L_law_793 ?_
  refine gb_riald (f := xs) (fun _ => hX) hi1 d_L_law_794 ?_
  refine gb_rload_n d_L_law_795 rfl ?_
  refine gb_iload_n d_L_law_796 rfl ?_
  refine gb_iconst 2 d_L_law_797 rfl ?_
  refine gb_iadd d_L_law_798 ?_
  refine gb_riald (f := xs) (fun _ => hX) hi2 d_L_law_799 ?_
  refine gb_cVl (As := [.int (xs (x3 + 1).toNatClampNeg), .int (xs (x3 + 2).toNatClampNeg)]) (rest := []) m_L_107 (t_X10_turned (Γ := Γ) hS e1) (hS 0 _ rfl) rfl (Nat.le_of_ble_eq_true rfl) rfl rfl (Nat.le_of_ble_eq_true rfl) d_L_law_800 ?_
  refine gb_aload_n d_L_law_803 rfl ?_
  refine gb_rload_n d_L_law_804 rfl ?_
  refine gb_iload_n d_L_law_805 rfl ?_
  refine gb_iconst 1 d_L_law_806 rfl ?_
  refine gb_iadd d_L_law_807 ?_
  refine gb_riald (f := xs) (fun _ => hX) hi1 d_L_law_808 ?_
  refine gb_rload_n d_L_law_809 rfl ?_
  refine gb_iload_n d_L_law_810 rfl ?_
  refine gb_iconst 2 d_L_law_811 rfl ?_
  refine gb_iadd d_L_law_812 ?_
  refine gb_riald (f := xs) (fun _ => hX) hi2 d_L_law_813 ?_
  refine gb_cVl (As := [.int (xs (x3 + 1).toNatClampNeg), .int (xs (x3 + 2).toNatClampNeg)]) (rest := [.long o1.2]) m_L_110 (t_X11_turned (Γ := Γ) hS e2) (hS 77 _ rfl) rfl (Nat.le_of_ble_eq_true rfl) rfl rfl (Nat.le_of_ble_eq_true rfl) d_L_law_814 ?_
  refine gb_lcmp d_L_law_817 ?_
  refine gb_if_eq 1308 d_L_law_818 (by decide) (fun _ => ?_) (fun hc => absurd (gb_cmp0 er) hc)
  exact hN _ _ hI2
set_option maxRecDepth 100000 in
set_option maxHeartbeats 4000000 in
theorem lc_pension {Γ : gb_X} {I : List gb_Sh → gb_G → Prop} {Lz : Nat} {xs : Nat → Int32} {Q : gb_P} {kc ks : Nat} {sh : List gb_Sh} {g : gb_G} {x3 : Int32} (hX : va_T .int (Γ.2.2.2.2 0) Lz (fun k => .int (xs k)) (fun q => gb_sz Γ ≤ q) Γ.2.2.2.1 Γ.2.2.2.1.heap) (hi1 : vp_in (x3 + 1) Lz) (hi2 : vp_in (x3 + 2) Lz) (hi3 : vp_in (x3 + 3) Lz) (hi4 : vp_in (x3 + 4) Lz) (hi5 : vp_in (x3 + 5) Lz) (hS : gb_S sh) (hI : I sh g) (hp : ps_pension I) (hN : ∀ (sh : List gb_Sh) (g : gb_G), I sh g → gb_J Γ M_L_law 500 Q kc ks sh g 1308 [(0, .retAddr 0), (1, .ref 0), (2, .ref 77), (3, .int x3)] []) : gb_J Γ M_L_law 500 Q (kc + 6) (ks + 869) sh g 823 [(0, .retAddr 0), (1, .ref 0), (2, .ref 77), (3, .int x3)] [] := by
  obtain ⟨o1, o2, e1, e2, er, hI2⟩ := hp sh g hI
  refine gb_J.mono (Nat.le_add_right kc 6) (Nat.le_add_right ks 869) ?_
  refine gb_aload_n d_L_law_823 rfl ?_
  refine gb_cVi (As := []) (rest := []) m_L_111 (t_X10_pension (Γ := Γ) hS e1) (hS 0 _ rfl) rfl (Nat.le_of_ble_eq_true rfl) rfl rfl (Nat.le_of_ble_eq_true rfl) d_L_law_824 ?_
  refine gb_aload_n d_L_law_827 rfl ?_
  refine gb_cVi (As := []) (rest := [.int o1.2]) m_L_114 (t_X11_pension (Γ := Γ) hS e2) (hS 77 _ rfl) rfl (Nat.le_of_ble_eq_true rfl) rfl rfl (Nat.le_of_ble_eq_true rfl) d_L_law_828 ?_
  refine gb_icmp_eq 1308 d_L_law_831 (by decide) (fun _ => ?_) (fun hc => absurd (er) hc)
  exact hN _ _ hI2
set_option maxRecDepth 100000 in
set_option maxHeartbeats 4000000 in
theorem lc_glad {Γ : gb_X} {I : List gb_Sh → gb_G → Prop} {Lz : Nat} {xs : Nat → Int32} {Q : gb_P} {kc ks : Nat} {sh : List gb_Sh} {g : gb_G} {x3 : Int32} (hX : va_T .int (Γ.2.2.2.2 0) Lz (fun k => .int (xs k)) (fun q => gb_sz Γ ≤ q) Γ.2.2.2.1 Γ.2.2.2.1.heap) (hi1 : vp_in (x3 + 1) Lz) (hi2 : vp_in (x3 + 2) Lz) (hi3 : vp_in (x3 + 3) Lz) (hi4 : vp_in (x3 + 4) Lz) (hi5 : vp_in (x3 + 5) Lz) (hS : gb_S sh) (hI : I sh g) (hp : ps_glad I) (hN : ∀ (sh : List gb_Sh) (g : gb_G), I sh g → gb_J Γ M_L_law 500 Q kc ks sh g 1308 [(0, .retAddr 0), (1, .ref 0), (2, .ref 77), (3, .int x3)] []) : gb_J Γ M_L_law 500 Q (kc + 6) (ks + 869) sh g 836 [(0, .retAddr 0), (1, .ref 0), (2, .ref 77), (3, .int x3)] [] := by
  obtain ⟨o1, o2, e1, e2, er, hI2⟩ := hp sh g (xs (x3 + 1).toNatClampNeg) (xs (x3 + 2).toNatClampNeg) hI
  refine gb_J.mono (Nat.le_add_right kc 6) (Nat.le_add_right ks 869) ?_
  refine gb_aload_n d_L_law_836 rfl ?_
  refine gb_rload_n d_L_law_837 rfl ?_
  refine gb_iload_n d_L_law_838 rfl ?_
  refine gb_iconst 1 d_L_law_839 rfl ?_
  refine gb_iadd d_L_law_840 ?_
  refine gb_riald (f := xs) (fun _ => hX) hi1 d_L_law_841 ?_
  refine gb_rload_n d_L_law_842 rfl ?_
  refine gb_iload_n d_L_law_843 rfl ?_
  refine gb_iconst 2 d_L_law_844 rfl ?_
  refine gb_iadd d_L_law_845 ?_
  refine gb_riald (f := xs) (fun _ => hX) hi2 d_L_law_846 ?_
  refine gb_cVi (As := [.int (xs (x3 + 1).toNatClampNeg), .int (xs (x3 + 2).toNatClampNeg)]) (rest := []) m_L_115 (t_X10_glad (Γ := Γ) hS e1) (hS 0 _ rfl) rfl (Nat.le_of_ble_eq_true rfl) rfl rfl (Nat.le_of_ble_eq_true rfl) d_L_law_847 ?_
  refine gb_aload_n d_L_law_850 rfl ?_
  refine gb_rload_n d_L_law_851 rfl ?_
  refine gb_iload_n d_L_law_852 rfl ?_
  refine gb_iconst 1 d_L_law_853 rfl ?_
  refine gb_iadd d_L_law_854 ?_
  refine gb_riald (f := xs) (fun _ => hX) hi1 d_L_law_855 ?_
  refine gb_rload_n d_L_law_856 rfl ?_
  refine gb_iload_n d_L_law_857 rfl ?_
  refine gb_iconst 2 d_L_law_858 rfl ?_
  refine gb_iadd d_L_law_859 ?_
  refine gb_riald (f := xs) (fun _ => hX) hi2 d_L_law_860 ?_
  refine gb_cVi (As := [.int (xs (x3 + 1).toNatClampNeg), .int (xs (x3 + 2).toNatClampNeg)]) (rest := [.int o1.2]) m_L_118 (t_X11_glad (Γ := Γ) hS e2) (hS 77 _ rfl) rfl (Nat.le_of_ble_eq_true rfl) rfl rfl (Nat.le_of_ble_eq_true rfl) d_L_law_861 ?_
  refine gb_icmp_eq 1308 d_L_law_864 (by decide) (fun _ => ?_) (fun hc => absurd (er) hc)
  exact hN _ _ hI2
set_option maxRecDepth 100000 in
set_option maxHeartbeats 4000000 in
theorem lc_round {Γ : gb_X} {I : List gb_Sh → gb_G → Prop} {Lz : Nat} {xs : Nat → Int32} {Q : gb_P} {kc ks : Nat} {sh : List gb_Sh} {g : gb_G} {x3 : Int32} (hX : va_T .int (Γ.2.2.2.2 0) Lz (fun k => .int (xs k)) (fun q => gb_sz Γ ≤ q) Γ.2.2.2.1 Γ.2.2.2.1.heap) (hi1 : vp_in (x3 + 1) Lz) (hi2 : vp_in (x3 + 2) Lz) (hi3 : vp_in (x3 + 3) Lz) (hi4 : vp_in (x3 + 4) Lz) (hi5 : vp_in (x3 + 5) Lz) (hS : gb_S sh) (hI : I sh g) (hp : ps_round I) (hN : ∀ (sh : List gb_Sh) (g : gb_G), I sh g → gb_J Γ M_L_law 500 Q kc ks sh g 1308 [(0, .retAddr 0), (1, .ref 0), (2, .ref 77), (3, .int x3)] []) : gb_J Γ M_L_law 500 Q (kc + 6) (ks + 869) sh g 869 [(0, .retAddr 0), (1, .ref 0), (2, .ref 77), (3, .int x3)] [] := by
  obtain ⟨o1, o2, e1, e2, er, hI2⟩ := hp sh g (xs (x3 + 1).toNatClampNeg) (xs (x3 + 2).toNatClampNeg) hI
  refine gb_J.mono (Nat.le_add_right kc 6) (Nat.le_add_right ks 869) ?_
  refine gb_aload_n d_L_law_869 rfl ?_
  refine gb_rload_n d_L_law_870 rfl ?_
  refine gb_iload_n d_L_law_871 rfl ?_
  refine gb_iconst 1 d_L_law_872 rfl ?_
  refine gb_iadd d_L_law_873 ?_
  refine gb_riald (f := xs) (fun _ => hX) hi1 d_L_law_874 ?_
  refine gb_rload_n d_L_law_875 rfl ?_
  refine gb_iload_n d_L_law_876 rfl ?_
  refine gb_iconst 2 d_L_law_877 rfl ?_
  refine gb_iadd d_L_law_878 ?_
  refine gb_riald (f := xs) (fun _ => hX) hi2 d_L_law_879 ?_
  refine gb_cVi (As := [.int (xs (x3 + 1).toNatClampNeg), .int (xs (x3 + 2).toNatClampNeg)]) (rest := []) m_L_119 (t_X10_round (Γ := Γ) hS e1) (hS 0 _ rfl) rfl (Nat.le_of_ble_eq_true rfl) rfl rfl (Nat.le_of_ble_eq_true rfl) d_L_law_880 ?_
  refine gb_aload_n d_L_law_883 rfl ?_
  refine gb_rload_n d_L_law_884 rfl ?_
  refine gb_iload_n d_L_law_885 rfl ?_
  refine gb_iconst 1 d_L_law_886 rfl ?_
  refine gb_iadd d_L_law_887 ?_
  refine gb_riald (f := xs) (fun _ => hX) hi1 d_L_law_888 ?_
  refine gb_rload_n d_L_law_889 rfl ?_
  refine gb_iload_n d_L_law_890 rfl ?_
  refine gb_iconst 2 d_L_law_891 rfl ?_
  refine gb_iadd d_L_law_892 ?_
  refine gb_riald (f := xs) (fun _ => hX) hi2 d_L_law_893 ?_
  refine gb_cVi (As := [.int (xs (x3 + 1).toNatClampNeg), .int (xs (x3 + 2).toNatClampNeg)]) (rest := [.int o1.2]) m_L_122 (t_X11_round (Γ := Γ) hS e2) (hS 77 _ rfl) rfl (Nat.le_of_ble_eq_true rfl) rfl rfl (Nat.le_of_ble_eq_true rfl) d_L_law_894 ?_
  refine gb_icmp_eq 1308 d_L_law_897 (by decide) (fun _ => ?_) (fun hc => absurd (er) hc)
  exact hN _ _ hI2
set_option maxRecDepth 100000 in
set_option maxHeartbeats 4000000 in
theorem lc_spent {Γ : gb_X} {I : List gb_Sh → gb_G → Prop} {Lz : Nat} {xs : Nat → Int32} {Q : gb_P} {kc ks : Nat} {sh : List gb_Sh} {g : gb_G} {x3 : Int32} (hX : va_T .int (Γ.2.2.2.2 0) Lz (fun k => .int (xs k)) (fun q => gb_sz Γ ≤ q) Γ.2.2.2.1 Γ.2.2.2.1.heap) (hi1 : vp_in (x3 + 1) Lz) (hi2 : vp_in (x3 + 2) Lz) (hi3 : vp_in (x3 + 3) Lz) (hi4 : vp_in (x3 + 4) Lz) (hi5 : vp_in (x3 + 5) Lz) (hS : gb_S sh) (hI : I sh g) (hp : ps_spent I) (hN : ∀ (sh : List gb_Sh) (g : gb_G), I sh g → gb_J Γ M_L_law 500 Q kc ks sh g 1308 [(0, .retAddr 0), (1, .ref 0), (2, .ref 77), (3, .int x3)] []) : gb_J Γ M_L_law 500 Q (kc + 6) (ks + 869) sh g 902 [(0, .retAddr 0), (1, .ref 0), (2, .ref 77), (3, .int x3)] [] := by
  obtain ⟨o1, o2, e1, e2, er, hI2⟩ := hp sh g (xs (x3 + 1).toNatClampNeg) (xs (x3 + 2).toNatClampNeg) (xs (x3 + 3).toNatClampNeg) hI
  refine gb_J.mono (Nat.le_add_right kc 6) (Nat.le_add_right ks 869) ?_
  refine gb_aload_n d_L_law_902 rfl ?_
  refine gb_rload_n d_L_law_903 rfl ?_
  refine gb_iload_n d_L_law_904 rfl ?_
  refine gb_iconst 1 d_L_law_905 rfl ?_
  refine gb_iadd d_L_law_906 ?_
  refine gb_riald (f := xs) (fun _ => hX) hi1 d_L_law_907 ?_
  refine gb_rload_n d_L_law_908 rfl ?_
  refine gb_iload_n d_L_law_909 rfl ?_
  refine gb_iconst 2 d_L_law_910 rfl ?_
  refine gb_iadd d_L_law_911 ?_
  refine gb_riald (f := xs) (fun _ => hX) hi2 d_L_law_912 ?_
  refine gb_rload_n d_L_law_913 rfl ?_
  refine gb_iload_n d_L_law_914 rfl ?_
  refine gb_iconst 3 d_L_law_915 rfl ?_
  refine gb_iadd d_L_law_916 ?_
  refine gb_riald (f := xs) (fun _ => hX) hi3 d_L_law_917 ?_
  refine gb_cVi (As := [.int (xs (x3 + 1).toNatClampNeg), .int (xs (x3 + 2).toNatClampNeg), .int (xs (x3 + 3).toNatClampNeg)]) (rest := []) m_L_123 (t_X10_spent (Γ := Γ) hS e1) (hS 0 _ rfl) rfl (Nat.le_of_ble_eq_true rfl) rfl rfl (Nat.le_of_ble_eq_true rfl) d_L_law_918 ?_
  refine gb_aload_n d_L_law_921 rfl ?_
  refine gb_rload_n d_L_law_922 rfl ?_
  refine gb_iload_n d_L_law_923 rfl ?_
  refine gb_iconst 1 d_L_law_924 rfl ?_
  refine gb_iadd d_L_law_925 ?_
  refine gb_riald (f := xs) (fun _ => hX) hi1 d_L_law_926 ?_
  refine gb_rload_n d_L_law_927 rfl ?_
  refine gb_iload_n d_L_law_928 rfl ?_
  refine gb_iconst 2 d_L_law_929 rfl ?_
  refine gb_iadd d_L_law_930 ?_
  refine gb_riald (f := xs) (fun _ => hX) hi2 d_L_law_931 ?_
  refine gb_rload_n d_L_law_932 rfl ?_
  refine gb_iload_n d_L_law_933 rfl ?_
  refine gb_iconst 3 d_L_law_934 rfl ?_
  refine gb_iadd d_L_law_935 ?_
  refine gb_riald (f := xs) (fun _ => hX) hi3 d_L_law_936 ?_
  refine gb_cVi (As := [.int (xs (x3 + 1).toNatClampNeg), .int (xs (x3 + 2).toNatClampNeg), .int (xs (x3 + 3).toNatClampNeg)]) (rest := [.int o1.2]) m_L_126 (t_X11_spent (Γ := Γ) hS e2) (hS 77 _ rfl) rfl (Nat.le_of_ble_eq_true rfl) rfl rfl (Nat.le_of_ble_eq_true rfl) d_L_law_937 ?_
  refine gb_icmp_eq 1308 d_L_law_940 (by decide) (fun _ => ?_) (fun hc => absurd (er) hc)
  exact hN _ _ hI2
set_option maxRecDepth 100000 in
set_option maxHeartbeats 4000000 in
theorem lc_ask {Γ : gb_X} {I : List gb_Sh → gb_G → Prop} {Lz : Nat} {xs : Nat → Int32} {Q : gb_P} {kc ks : Nat} {sh : List gb_Sh} {g : gb_G} {x3 : Int32} (hX : va_T .int (Γ.2.2.2.2 0) Lz (fun k => .int (xs k)) (fun q => gb_sz Γ ≤ q) Γ.2.2.2.1 Γ.2.2.2.1.heap) (hi1 : vp_in (x3 + 1) Lz) (hi2 : vp_in (x3 + 2) Lz) (hi3 : vp_in (x3 + 3) Lz) (hi4 : vp_in (x3 + 4) Lz) (hi5 : vp_in (x3 + 5) Lz) (hS : gb_S sh) (hI : I sh g) (hp : ps_ask I) (hN : ∀ (sh : List gb_Sh) (g : gb_G), I sh g → gb_J Γ M_L_law 500 Q kc ks sh g 1308 [(0, .retAddr 0), (1, .ref 0), (2, .ref 77), (3, .int x3)] []) : gb_J Γ M_L_law 500 Q (kc + 6) (ks + 869) sh g 945 [(0, .retAddr 0), (1, .ref 0), (2, .ref 77), (3, .int x3)] [] := by
  obtain ⟨o1, o2, e1, e2, er, hI2⟩ := hp sh g (xs (x3 + 1).toNatClampNeg) (xs (x3 + 2).toNatClampNeg) (xs (x3 + 3).toNatClampNeg) hI
  refine gb_J.mono (Nat.le_add_right kc 6) (Nat.le_add_right ks 869) ?_
  refine gb_aload_n d_L_law_945 rfl ?_
  refine gb_rload_n d_L_law_946 rfl ?_
  refine gb_iload_n d_L_law_947 rfl ?_
  refine gb_iconst 1 d_L_law_948 rfl ?_
  refine gb_iadd d_L_law_949 ?_
  refine gb_riald (f := xs) (fun _ => hX) hi1 d_L_law_950 ?_
  refine gb_rload_n d_L_law_951 rfl ?_
  refine gb_iload_n d_L_law_952 rfl ?_
  refine gb_iconst 2 d_L_law_953 rfl ?_
  refine gb_iadd d_L_law_954 ?_
  refine gb_riald (f := xs) (fun _ => hX) hi2 d_L_law_955 ?_
  refine gb_rload_n d_L_law_956 rfl ?_
  refine gb_iload_n d_L_law_957 rfl ?_
  refine gb_iconst 3 d_L_law_958 rfl ?_
  refine gb_iadd d_L_law_959 ?_
  refine gb_riald (f := xs) (fun _ => hX) hi3 d_L_law_960 ?_
  refine gb_cVi (As := [.int (xs (x3 + 1).toNatClampNeg), .int (xs (x3 + 2).toNatClampNeg), .int (xs (x3 + 3).toNatClampNeg)]) (rest := []) m_L_127 (t_X10_ask (Γ := Γ) hS e1) (hS 0 _ rfl) rfl (Nat.le_of_ble_eq_true rfl) rfl rfl (Nat.le_of_ble_eq_true rfl) d_L_law_961 ?_
  refine gb_aload_n d_L_law_964 rfl ?_
  refine gb_rload_n d_L_law_965 rfl ?_
  refine gb_iload_n d_L_law_966 rfl ?_
  refine gb_iconst 1 d_L_law_967 rfl ?_
  refine gb_iadd d_L_law_968 ?_
  refine gb_riald (f := xs) (fun _ => hX) hi1 d_L_law_969 ?_
  refine gb_rload_n d_L_law_970 rfl ?_
  refine gb_iload_n d_L_law_971 rfl ?_
  refine gb_iconst 2 d_L_law_972 rfl ?_
  refine gb_iadd d_L_law_973 ?_
  refine gb_riald (f := xs) (fun _ => hX) hi2 d_L_law_974 ?_
  refine gb_rload_n d_L_law_975 rfl ?_
  refine gb_iload_n d_L_law_976 rfl ?_
  refine gb_iconst 3 d_L_law_977 rfl ?_
  refine gb_iadd d_L_law_978 ?_
  refine gb_riald (f := xs) (fun _ => hX) hi3 d_L_law_979 ?_
  refine gb_cVi (As := [.int (xs (x3 + 1).toNatClampNeg), .int (xs (x3 + 2).toNatClampNeg), .int (xs (x3 + 3).toNatClampNeg)]) (rest := [.int o1.2]) m_L_130 (t_X11_ask (Γ := Γ) hS e2) (hS 77 _ rfl) rfl (Nat.le_of_ble_eq_true rfl) rfl rfl (Nat.le_of_ble_eq_true rfl) d_L_law_980 ?_
  refine gb_icmp_eq 1308 d_L_law_983 (by decide) (fun _ => ?_) (fun hc => absurd (er) hc)
  exact hN _ _ hI2
set_option maxRecDepth 100000 in
set_option maxHeartbeats 4000000 in
theorem lc_fair {Γ : gb_X} {I : List gb_Sh → gb_G → Prop} {Lz : Nat} {xs : Nat → Int32} {Q : gb_P} {kc ks : Nat} {sh : List gb_Sh} {g : gb_G} {x3 : Int32} (hX : va_T .int (Γ.2.2.2.2 0) Lz (fun k => .int (xs k)) (fun q => gb_sz Γ ≤ q) Γ.2.2.2.1 Γ.2.2.2.1.heap) (hi1 : vp_in (x3 + 1) Lz) (hi2 : vp_in (x3 + 2) Lz) (hi3 : vp_in (x3 + 3) Lz) (hi4 : vp_in (x3 + 4) Lz) (hi5 : vp_in (x3 + 5) Lz) (hS : gb_S sh) (hI : I sh g) (hp : ps_fair I) (hN : ∀ (sh : List gb_Sh) (g : gb_G), I sh g → gb_J Γ M_L_law 500 Q kc ks sh g 1308 [(0, .retAddr 0), (1, .ref 0), (2, .ref 77), (3, .int x3)] []) : gb_J Γ M_L_law 500 Q (kc + 6) (ks + 869) sh g 988 [(0, .retAddr 0), (1, .ref 0), (2, .ref 77), (3, .int x3)] [] := by
  obtain ⟨o1, o2, e1, e2, er, hI2⟩ := hp sh g (xs (x3 + 1).toNatClampNeg) (xs (x3 + 2).toNatClampNeg) hI
  refine gb_J.mono (Nat.le_add_right kc 6) (Nat.le_add_right ks 869) ?_
  refine gb_aload_n d_L_law_988 rfl ?_
  refine gb_rload_n d_L_law_989 rfl ?_
  refine gb_iload_n d_L_law_990 rfl ?_
  refine gb_iconst 1 d_L_law_991 rfl ?_
  refine gb_iadd d_L_law_992 ?_
  refine gb_riald (f := xs) (fun _ => hX) hi1 d_L_law_993 ?_
  refine gb_rload_n d_L_law_994 rfl ?_
  refine gb_iload_n d_L_law_995 rfl ?_
  refine gb_iconst 2 d_L_law_996 rfl ?_
  refine gb_iadd d_L_law_997 ?_
  refine gb_riald (f := xs) (fun _ => hX) hi2 d_L_law_998 ?_
  refine gb_cVi (As := [.int (xs (x3 + 1).toNatClampNeg), .int (xs (x3 + 2).toNatClampNeg)]) (rest := []) m_L_131 (t_X10_fair (Γ := Γ) hS e1) (hS 0 _ rfl) rfl (Nat.le_of_ble_eq_true rfl) rfl rfl (Nat.le_of_ble_eq_true rfl) d_L_law_999 ?_
  refine gb_aload_n d_L_law_1002 rfl ?_
  refine gb_rload_n d_L_law_1003 rfl ?_
  refine gb_iload_n d_L_law_1004 rfl ?_
  refine gb_iconst 1 d_L_law_1005 rfl ?_
  refine gb_iadd d_L_law_1006 ?_
  refine gb_riald (f := xs) (fun _ => hX) hi1 d_L_law_1007 ?_
  refine gb_rload_n d_L_law_1008 rfl ?_
  refine gb_iload_n d_L_law_1009 rfl ?_
  refine gb_iconst 2 d_L_law_1010 rfl ?_
  refine gb_iadd d_L_law_1011 ?_
  refine gb_riald (f := xs) (fun _ => hX) hi2 d_L_law_1012 ?_
  refine gb_cVi (As := [.int (xs (x3 + 1).toNatClampNeg), .int (xs (x3 + 2).toNatClampNeg)]) (rest := [.int o1.2]) m_L_134 (t_X11_fair (Γ := Γ) hS e2) (hS 77 _ rfl) rfl (Nat.le_of_ble_eq_true rfl) rfl rfl (Nat.le_of_ble_eq_true rfl) d_L_law_1013 ?_
  refine gb_icmp_eq 1308 d_L_law_1016 (by decide) (fun _ => ?_) (fun hc => absurd (er) hc)
  exact hN _ _ hI2
set_option maxRecDepth 100000 in
set_option maxHeartbeats 4000000 in
theorem lc_hear {Γ : gb_X} {I : List gb_Sh → gb_G → Prop} {Lz : Nat} {xs : Nat → Int32} {Q : gb_P} {kc ks : Nat} {sh : List gb_Sh} {g : gb_G} {x3 : Int32} (hX : va_T .int (Γ.2.2.2.2 0) Lz (fun k => .int (xs k)) (fun q => gb_sz Γ ≤ q) Γ.2.2.2.1 Γ.2.2.2.1.heap) (hi1 : vp_in (x3 + 1) Lz) (hi2 : vp_in (x3 + 2) Lz) (hi3 : vp_in (x3 + 3) Lz) (hi4 : vp_in (x3 + 4) Lz) (hi5 : vp_in (x3 + 5) Lz) (hS : gb_S sh) (hI : I sh g) (hp : ps_hear I) (hN : ∀ (sh : List gb_Sh) (g : gb_G), I sh g → gb_J Γ M_L_law 500 Q kc ks sh g 1308 [(0, .retAddr 0), (1, .ref 0), (2, .ref 77), (3, .int x3)] []) : gb_J Γ M_L_law 500 Q (kc + 6) (ks + 869) sh g 1021 [(0, .retAddr 0), (1, .ref 0), (2, .ref 77), (3, .int x3)] [] := by
  obtain ⟨o1, o2, e1, e2, er, hI2⟩ := hp sh g (xs (x3 + 1).toNatClampNeg) hI
  refine gb_J.mono (Nat.le_add_right kc 6) (Nat.le_add_right ks 869) ?_
  refine gb_aload_n d_L_law_1021 rfl ?_
  refine gb_rload_n d_L_law_1022 rfl ?_
  refine gb_iload_n d_L_law_1023 rfl ?_
  refine gb_iconst 1 d_L_law_1024 rfl ?_
  refine gb_iadd d_L_law_1025 ?_
  refine gb_riald (f := xs) (fun _ => hX) hi1 d_L_law_1026 ?_
  refine gb_cVi (As := [.int (xs (x3 + 1).toNatClampNeg)]) (rest := []) m_L_135 (t_X10_hear (Γ := Γ) hS e1) (hS 0 _ rfl) rfl (Nat.le_of_ble_eq_true rfl) rfl rfl (Nat.le_of_ble_eq_true rfl) d_L_law_1027 ?_
  refine gb_aload_n d_L_law_1030 rfl ?_
  refine gb_rload_n d_L_law_1031 rfl ?_
  refine gb_iload_n d_L_law_1032 rfl ?_
  refine gb_iconst 1 d_L_law_1033 rfl ?_
  refine gb_iadd d_L_law_1034 ?_
  refine gb_riald (f := xs) (fun _ => hX) hi1 d_L_law_1035 ?_
  refine gb_cVi (As := [.int (xs (x3 + 1).toNatClampNeg)]) (rest := [.int o1.2]) m_L_138 (t_X11_hear (Γ := Γ) hS e2) (hS 77 _ rfl) rfl (Nat.le_of_ble_eq_true rfl) rfl rfl (Nat.le_of_ble_eq_true rfl) d_L_law_1036 ?_
  refine gb_icmp_eq 1308 d_L_law_1039 (by decide) (fun _ => ?_) (fun hc => absurd (er) hc)
  exact hN _ _ hI2
set_option maxRecDepth 100000 in
set_option maxHeartbeats 4000000 in
theorem lc_forget {Γ : gb_X} {I : List gb_Sh → gb_G → Prop} {Lz : Nat} {xs : Nat → Int32} {Q : gb_P} {kc ks : Nat} {sh : List gb_Sh} {g : gb_G} {x3 : Int32} (hX : va_T .int (Γ.2.2.2.2 0) Lz (fun k => .int (xs k)) (fun q => gb_sz Γ ≤ q) Γ.2.2.2.1 Γ.2.2.2.1.heap) (hi1 : vp_in (x3 + 1) Lz) (hi2 : vp_in (x3 + 2) Lz) (hi3 : vp_in (x3 + 3) Lz) (hi4 : vp_in (x3 + 4) Lz) (hi5 : vp_in (x3 + 5) Lz) (hS : gb_S sh) (hI : I sh g) (hp : ps_forget I) (hN : ∀ (sh : List gb_Sh) (g : gb_G), I sh g → gb_J Γ M_L_law 500 Q kc ks sh g 1308 [(0, .retAddr 0), (1, .ref 0), (2, .ref 77), (3, .int x3)] []) : gb_J Γ M_L_law 500 Q (kc + 6) (ks + 869) sh g 1044 [(0, .retAddr 0), (1, .ref 0), (2, .ref 77), (3, .int x3)] [] := by
  obtain ⟨o1, o2, e1, e2, er, hI2⟩ := hp sh g hI
  refine gb_J.mono (Nat.le_add_right kc 6) (Nat.le_add_right ks 869) ?_
  refine gb_aload_n d_L_law_1044 rfl ?_
  refine gb_cVi (As := []) (rest := []) m_L_139 (t_X10_forget (Γ := Γ) hS e1) (hS 0 _ rfl) rfl (Nat.le_of_ble_eq_true rfl) rfl rfl (Nat.le_of_ble_eq_true rfl) d_L_law_1045 ?_
  refine gb_aload_n d_L_law_1048 rfl ?_
  refine gb_cVi (As := []) (rest := [.int o1.2]) m_L_142 (t_X11_forget (Γ := Γ) hS e2) (hS 77 _ rfl) rfl (Nat.le_of_ble_eq_true rfl) rfl rfl (Nat.le_of_ble_eq_true rfl) d_L_law_1049 ?_
  refine gb_icmp_eq 1308 d_L_law_1052 (by decide) (fun _ => ?_) (fun hc => absurd (er) hc)
  exact hN _ _ hI2
set_option maxRecDepth 100000 in
set_option maxHeartbeats 4000000 in
theorem lc_trend {Γ : gb_X} {I : List gb_Sh → gb_G → Prop} {Lz : Nat} {xs : Nat → Int32} {Q : gb_P} {kc ks : Nat} {sh : List gb_Sh} {g : gb_G} {x3 : Int32} (hX : va_T .int (Γ.2.2.2.2 0) Lz (fun k => .int (xs k)) (fun q => gb_sz Γ ≤ q) Γ.2.2.2.1 Γ.2.2.2.1.heap) (hi1 : vp_in (x3 + 1) Lz) (hi2 : vp_in (x3 + 2) Lz) (hi3 : vp_in (x3 + 3) Lz) (hi4 : vp_in (x3 + 4) Lz) (hi5 : vp_in (x3 + 5) Lz) (hS : gb_S sh) (hI : I sh g) (hp : ps_trend I) (hN : ∀ (sh : List gb_Sh) (g : gb_G), I sh g → gb_J Γ M_L_law 500 Q kc ks sh g 1308 [(0, .retAddr 0), (1, .ref 0), (2, .ref 77), (3, .int x3)] []) : gb_J Γ M_L_law 500 Q (kc + 6) (ks + 869) sh g 1057 [(0, .retAddr 0), (1, .ref 0), (2, .ref 77), (3, .int x3)] [] := by
  obtain ⟨o1, o2, e1, e2, er, hI2⟩ := hp sh g (xs (x3 + 1).toNatClampNeg) hI
  refine gb_J.mono (Nat.le_add_right kc 6) (Nat.le_add_right ks 869) ?_
  refine gb_aload_n d_L_law_1057 rfl ?_
  refine gb_rload_n d_L_law_1058 rfl ?_
  refine gb_iload_n d_L_law_1059 rfl ?_
  refine gb_iconst 1 d_L_law_1060 rfl ?_
  refine gb_iadd d_L_law_1061 ?_
  refine gb_riald (f := xs) (fun _ => hX) hi1 d_L_law_1062 ?_
  refine gb_cVi (As := [.int (xs (x3 + 1).toNatClampNeg)]) (rest := []) m_L_143 (t_X10_trend (Γ := Γ) hS e1) (hS 0 _ rfl) rfl (Nat.le_of_ble_eq_true rfl) rfl rfl (Nat.le_of_ble_eq_true rfl) d_L_law_1063 ?_
  refine gb_aload_n d_L_law_1066 rfl ?_
  refine gb_rload_n d_L_law_1067 rfl ?_
  refine gb_iload_n d_L_law_1068 rfl ?_
  refine gb_iconst 1 d_L_law_1069 rfl ?_
  refine gb_iadd d_L_law_1070 ?_
  refine gb_riald (f := xs) (fun _ => hX) hi1 d_L_law_1071 ?_
  refine gb_cVi (As := [.int (xs (x3 + 1).toNatClampNeg)]) (rest := [.int o1.2]) m_L_146 (t_X11_trend (Γ := Γ) hS e2) (hS 77 _ rfl) rfl (Nat.le_of_ble_eq_true rfl) rfl rfl (Nat.le_of_ble_eq_true rfl) d_L_law_1072 ?_
  refine gb_icmp_eq 1308 d_L_law_1075 (by decide) (fun _ => ?_) (fun hc => absurd (er) hc)
  exact hN _ _ hI2
set_option maxRecDepth 100000 in
set_option maxHeartbeats 4000000 in
theorem lc_does {Γ : gb_X} {I : List gb_Sh → gb_G → Prop} {Lz : Nat} {xs : Nat → Int32} {Q : gb_P} {kc ks : Nat} {sh : List gb_Sh} {g : gb_G} {x3 : Int32} (hX : va_T .int (Γ.2.2.2.2 0) Lz (fun k => .int (xs k)) (fun q => gb_sz Γ ≤ q) Γ.2.2.2.1 Γ.2.2.2.1.heap) (hi1 : vp_in (x3 + 1) Lz) (hi2 : vp_in (x3 + 2) Lz) (hi3 : vp_in (x3 + 3) Lz) (hi4 : vp_in (x3 + 4) Lz) (hi5 : vp_in (x3 + 5) Lz) (hS : gb_S sh) (hI : I sh g) (hp : ps_does I) (hN : ∀ (sh : List gb_Sh) (g : gb_G), I sh g → gb_J Γ M_L_law 500 Q kc ks sh g 1308 [(0, .retAddr 0), (1, .ref 0), (2, .ref 77), (3, .int x3)] []) : gb_J Γ M_L_law 500 Q (kc + 6) (ks + 869) sh g 1080 [(0, .retAddr 0), (1, .ref 0), (2, .ref 77), (3, .int x3)] [] := by
  obtain ⟨o1, o2, e1, e2, er, hI2⟩ := hp sh g (xs (x3 + 1).toNatClampNeg) hI
  refine gb_J.mono (Nat.le_add_right kc 6) (Nat.le_add_right ks 869) ?_
  refine gb_aload_n d_L_law_1080 rfl ?_
  refine gb_rload_n d_L_law_1081 rfl ?_
  refine gb_iload_n d_L_law_1082 rfl ?_
  refine gb_iconst 1 d_L_law_1083 rfl ?_
  refine gb_iadd d_L_law_1084 ?_
  refine gb_riald (f := xs) (fun _ => hX) hi1 d_L_law_1085 ?_
  refine gb_cVi (As := [.int (xs (x3 + 1).toNatClampNeg)]) (rest := []) m_L_147 (t_X10_does (Γ := Γ) hS e1) (hS 0 _ rfl) rfl (Nat.le_of_ble_eq_true rfl) rfl rfl (Nat.le_of_ble_eq_true rfl) d_L_law_1086 ?_
  refine gb_aload_n d_L_law_1089 rfl ?_
  refine gb_rload_n d_L_law_1090 rfl ?_
  refine gb_iload_n d_L_law_1091 rfl ?_
  refine gb_iconst 1 d_L_law_1092 rfl ?_
  refine gb_iadd d_L_law_1093 ?_
  refine gb_riald (f := xs) (fun _ => hX) hi1 d_L_law_1094 ?_
  refine gb_cVi (As := [.int (xs (x3 + 1).toNatClampNeg)]) (rest := [.int o1.2]) m_L_150 (t_X11_does (Γ := Γ) hS e2) (hS 77 _ rfl) rfl (Nat.le_of_ble_eq_true rfl) rfl rfl (Nat.le_of_ble_eq_true rfl) d_L_law_1095 ?_
  refine gb_icmp_eq 1308 d_L_law_1098 (by decide) (fun _ => ?_) (fun hc => absurd (er) hc)
  exact hN _ _ hI2
set_option maxRecDepth 100000 in
set_option maxHeartbeats 4000000 in
theorem lc_compare {Γ : gb_X} {I : List gb_Sh → gb_G → Prop} {Lz : Nat} {xs : Nat → Int32} {Q : gb_P} {kc ks : Nat} {sh : List gb_Sh} {g : gb_G} {x3 : Int32} (hX : va_T .int (Γ.2.2.2.2 0) Lz (fun k => .int (xs k)) (fun q => gb_sz Γ ≤ q) Γ.2.2.2.1 Γ.2.2.2.1.heap) (hi1 : vp_in (x3 + 1) Lz) (hi2 : vp_in (x3 + 2) Lz) (hi3 : vp_in (x3 + 3) Lz) (hi4 : vp_in (x3 + 4) Lz) (hi5 : vp_in (x3 + 5) Lz) (hS : gb_S sh) (hI : I sh g) (hp : ps_compare I) (hN : ∀ (sh : List gb_Sh) (g : gb_G), I sh g → gb_J Γ M_L_law 500 Q kc ks sh g 1308 [(0, .retAddr 0), (1, .ref 0), (2, .ref 77), (3, .int x3)] []) : gb_J Γ M_L_law 500 Q (kc + 6) (ks + 869) sh g 1103 [(0, .retAddr 0), (1, .ref 0), (2, .ref 77), (3, .int x3)] [] := by
  obtain ⟨o1, o2, e1, e2, er, hI2⟩ := hp sh g (xs (x3 + 1).toNatClampNeg) hI
  refine gb_J.mono (Nat.le_add_right kc 6) (Nat.le_add_right ks 869) ?_
  refine gb_aload_n d_L_law_1103 rfl ?_
  refine gb_rload_n d_L_law_1104 rfl ?_
  refine gb_iload_n d_L_law_1105 rfl ?_
  refine gb_iconst 1 d_L_law_1106 rfl ?_
  refine gb_iadd d_L_law_1107 ?_
  refine gb_riald (f := xs) (fun _ => hX) hi1 d_L_law_1108 ?_
  refine gb_cVi (As := [.int (xs (x3 + 1).toNatClampNeg)]) (rest := []) m_L_151 (t_X10_compare (Γ := Γ) hS e1) (hS 0 _ rfl) rfl (Nat.le_of_ble_eq_true rfl) rfl rfl (Nat.le_of_ble_eq_true rfl) d_L_law_1109 ?_
  refine gb_aload_n d_L_law_1112 rfl ?_
  refine gb_rload_n d_L_law_1113 rfl ?_
  refine gb_iload_n d_L_law_1114 rfl ?_
  refine gb_iconst 1 d_L_law_1115 rfl ?_
  refine gb_iadd d_L_law_1116 ?_
  refine gb_riald (f := xs) (fun _ => hX) hi1 d_L_law_1117 ?_
  refine gb_cVi (As := [.int (xs (x3 + 1).toNatClampNeg)]) (rest := [.int o1.2]) m_L_154 (t_X11_compare (Γ := Γ) hS e2) (hS 77 _ rfl) rfl (Nat.le_of_ble_eq_true rfl) rfl rfl (Nat.le_of_ble_eq_true rfl) d_L_law_1118 ?_
  refine gb_icmp_eq 1308 d_L_law_1121 (by decide) (fun _ => ?_) (fun hc => absurd (er) hc)
  exact hN _ _ hI2
set_option maxRecDepth 100000 in
set_option maxHeartbeats 4000000 in
theorem lc_gets {Γ : gb_X} {I : List gb_Sh → gb_G → Prop} {Lz : Nat} {xs : Nat → Int32} {Q : gb_P} {kc ks : Nat} {sh : List gb_Sh} {g : gb_G} {x3 : Int32} (hX : va_T .int (Γ.2.2.2.2 0) Lz (fun k => .int (xs k)) (fun q => gb_sz Γ ≤ q) Γ.2.2.2.1 Γ.2.2.2.1.heap) (hi1 : vp_in (x3 + 1) Lz) (hi2 : vp_in (x3 + 2) Lz) (hi3 : vp_in (x3 + 3) Lz) (hi4 : vp_in (x3 + 4) Lz) (hi5 : vp_in (x3 + 5) Lz) (hS : gb_S sh) (hI : I sh g) (hp : ps_gets I) (hN : ∀ (sh : List gb_Sh) (g : gb_G), I sh g → gb_J Γ M_L_law 500 Q kc ks sh g 1308 [(0, .retAddr 0), (1, .ref 0), (2, .ref 77), (3, .int x3)] []) : gb_J Γ M_L_law 500 Q (kc + 6) (ks + 869) sh g 1126 [(0, .retAddr 0), (1, .ref 0), (2, .ref 77), (3, .int x3)] [] := by
  obtain ⟨o1, o2, e1, e2, er, hI2⟩ := hp sh g (xs (x3 + 1).toNatClampNeg) (xs (x3 + 2).toNatClampNeg) hI
  refine gb_J.mono (Nat.le_add_right kc 6) (Nat.le_add_right ks 869) ?_
  refine gb_aload_n d_L_law_1126 rfl ?_
  refine gb_rload_n d_L_law_1127 rfl ?_
  refine gb_iload_n d_L_law_1128 rfl ?_
  refine gb_iconst 1 d_L_law_1129 rfl ?_
  refine gb_iadd d_L_law_1130 ?_
  refine gb_riald (f := xs) (fun _ => hX) hi1 d_L_law_1131 ?_
  refine gb_rload_n d_L_law_1132 rfl ?_
  refine gb_iload_n d_L_law_1133 rfl ?_
  refine gb_iconst 2 d_L_law_1134 rfl ?_
  refine gb_iadd d_L_law_1135 ?_
  refine gb_riald (f := xs) (fun _ => hX) hi2 d_L_law_1136 ?_
  refine gb_cVl (As := [.int (xs (x3 + 1).toNatClampNeg), .int (xs (x3 + 2).toNatClampNeg)]) (rest := []) m_L_155 (t_X10_gets (Γ := Γ) hS e1) (hS 0 _ rfl) rfl (Nat.le_of_ble_eq_true rfl) rfl rfl (Nat.le_of_ble_eq_true rfl) d_L_law_1137 ?_
  refine gb_aload_n d_L_law_1140 rfl ?_
  refine gb_rload_n d_L_law_1141 rfl ?_
  refine gb_iload_n d_L_law_1142 rfl ?_
  refine gb_iconst 1 d_L_law_1143 rfl ?_
  refine gb_iadd d_L_law_1144 ?_
  refine gb_riald (f := xs) (fun _ => hX) hi1 d_L_law_1145 ?_
  refine gb_rload_n d_L_law_1146 rfl ?_
  refine gb_iload_n d_L_law_1147 rfl ?_
  refine gb_iconst 2 d_L_law_1148 rfl ?_
  refine gb_iadd d_L_law_1149 ?_
  refine gb_riald (f := xs) (fun _ => hX) hi2 d_L_law_1150 ?_
  refine gb_cVl (As := [.int (xs (x3 + 1).toNatClampNeg), .int (xs (x3 + 2).toNatClampNeg)]) (rest := [.long o1.2]) m_L_158 (t_X11_gets (Γ := Γ) hS e2) (hS 77 _ rfl) rfl (Nat.le_of_ble_eq_true rfl) rfl rfl (Nat.le_of_ble_eq_true rfl) d_L_law_1151 ?_
  refine gb_lcmp d_L_law_1154 ?_
  refine gb_if_eq 1308 d_L_law_1155 (by decide) (fun _ => ?_) (fun hc => absurd (gb_cmp0 er) hc)
  exact hN _ _ hI2
set_option maxRecDepth 100000 in
set_option maxHeartbeats 4000000 in
theorem lc_years {Γ : gb_X} {I : List gb_Sh → gb_G → Prop} {Lz : Nat} {xs : Nat → Int32} {Q : gb_P} {kc ks : Nat} {sh : List gb_Sh} {g : gb_G} {x3 : Int32} (hX : va_T .int (Γ.2.2.2.2 0) Lz (fun k => .int (xs k)) (fun q => gb_sz Γ ≤ q) Γ.2.2.2.1 Γ.2.2.2.1.heap) (hi1 : vp_in (x3 + 1) Lz) (hi2 : vp_in (x3 + 2) Lz) (hi3 : vp_in (x3 + 3) Lz) (hi4 : vp_in (x3 + 4) Lz) (hi5 : vp_in (x3 + 5) Lz) (hS : gb_S sh) (hI : I sh g) (hp : ps_years I) (hN : ∀ (sh : List gb_Sh) (g : gb_G), I sh g → gb_J Γ M_L_law 500 Q kc ks sh g 1308 [(0, .retAddr 0), (1, .ref 0), (2, .ref 77), (3, .int x3)] []) : gb_J Γ M_L_law 500 Q (kc + 6) (ks + 869) sh g 1160 [(0, .retAddr 0), (1, .ref 0), (2, .ref 77), (3, .int x3)] [] := by
  obtain ⟨o1, o2, e1, e2, er, hI2⟩ := hp sh g (xs (x3 + 1).toNatClampNeg) (xs (x3 + 2).toNatClampNeg) hI
  refine gb_J.mono (Nat.le_add_right kc 6) (Nat.le_add_right ks 869) ?_
  refine gb_aload_n d_L_law_1160 rfl ?_
  refine gb_rload_n d_L_law_1161 rfl ?_
  refine gb_iload_n d_L_law_1162 rfl ?_
  refine gb_iconst 1 d_L_law_1163 rfl ?_
  refine gb_iadd d_L_law_1164 ?_
  refine gb_riald (f := xs) (fun _ => hX) hi1 d_L_law_1165 ?_
  refine gb_rload_n d_L_law_1166 rfl ?_
  refine gb_iload_n d_L_law_1167 rfl ?_
  refine gb_iconst 2 d_L_law_1168 rfl ?_
  refine gb_iadd d_L_law_1169 ?_
  refine gb_riald (f := xs) (fun _ => hX) hi2 d_L_law_1170 ?_
  refine gb_cVi (As := [.int (xs (x3 + 1).toNatClampNeg), .int (xs (x3 + 2).toNatClampNeg)]) (rest := []) m_L_159 (t_X10_years (Γ := Γ) hS e1) (hS 0 _ rfl) rfl (Nat.le_of_ble_eq_true rfl) rfl rfl (Nat.le_of_ble_eq_true rfl) d_L_law_1171 ?_
  refine gb_aload_n d_L_law_1174 rfl ?_
  refine gb_rload_n d_L_law_1175 rfl ?_
  refine gb_iload_n d_L_law_1176 rfl ?_
  refine gb_iconst 1 d_L_law_1177 rfl ?_
  refine gb_iadd d_L_law_1178 ?_
  refine gb_riald (f := xs) (fun _ => hX) hi1 d_L_law_1179 ?_
  refine gb_rload_n d_L_law_1180 rfl ?_
  refine gb_iload_n d_L_law_1181 rfl ?_
  refine gb_iconst 2 d_L_law_1182 rfl ?_
  refine gb_iadd d_L_law_1183 ?_
  refine gb_riald (f := xs) (fun _ => hX) hi2 d_L_law_1184 ?_
  refine gb_cVi (As := [.int (xs (x3 + 1).toNatClampNeg), .int (xs (x3 + 2).toNatClampNeg)]) (rest := [.int o1.2]) m_L_162 (t_X11_years (Γ := Γ) hS e2) (hS 77 _ rfl) rfl (Nat.le_of_ble_eq_true rfl) rfl rfl (Nat.le_of_ble_eq_true rfl) d_L_law_1185 ?_
  refine gb_icmp_eq 1308 d_L_law_1188 (by decide) (fun _ => ?_) (fun hc => absurd (er) hc)
  exact hN _ _ hI2
set_option maxRecDepth 100000 in
set_option maxHeartbeats 4000000 in
theorem lc_drawn {Γ : gb_X} {I : List gb_Sh → gb_G → Prop} {Lz : Nat} {xs : Nat → Int32} {Q : gb_P} {kc ks : Nat} {sh : List gb_Sh} {g : gb_G} {x3 : Int32} (hX : va_T .int (Γ.2.2.2.2 0) Lz (fun k => .int (xs k)) (fun q => gb_sz Γ ≤ q) Γ.2.2.2.1 Γ.2.2.2.1.heap) (hi1 : vp_in (x3 + 1) Lz) (hi2 : vp_in (x3 + 2) Lz) (hi3 : vp_in (x3 + 3) Lz) (hi4 : vp_in (x3 + 4) Lz) (hi5 : vp_in (x3 + 5) Lz) (hS : gb_S sh) (hI : I sh g) (hp : ps_drawn I) (hN : ∀ (sh : List gb_Sh) (g : gb_G), I sh g → gb_J Γ M_L_law 500 Q kc ks sh g 1308 [(0, .retAddr 0), (1, .ref 0), (2, .ref 77), (3, .int x3)] []) : gb_J Γ M_L_law 500 Q (kc + 6) (ks + 869) sh g 1193 [(0, .retAddr 0), (1, .ref 0), (2, .ref 77), (3, .int x3)] [] := by
  obtain ⟨o1, o2, e1, e2, er, hI2⟩ := hp sh g (xs (x3 + 1).toNatClampNeg) (xs (x3 + 2).toNatClampNeg) hI
  refine gb_J.mono (Nat.le_add_right kc 6) (Nat.le_add_right ks 869) ?_
  refine gb_aload_n d_L_law_1193 rfl ?_
  refine gb_rload_n d_L_law_1194 rfl ?_
  refine gb_iload_n d_L_law_1195 rfl ?_
  refine gb_iconst 1 d_L_law_1196 rfl ?_
  refine gb_iadd d_L_law_1197 ?_
  refine gb_riald (f := xs) (fun _ => hX) hi1 d_L_law_1198 ?_
  refine gb_rload_n d_L_law_1199 rfl ?_
  refine gb_iload_n d_L_law_1200 rfl ?_
  refine gb_iconst 2 d_L_law_1201 rfl ?_
  refine gb_iadd d_L_law_1202 ?_
  refine gb_riald (f := xs) (fun _ => hX) hi2 d_L_law_1203 ?_
  refine gb_cVi (As := [.int (xs (x3 + 1).toNatClampNeg), .int (xs (x3 + 2).toNatClampNeg)]) (rest := []) m_L_163 (t_X10_drawn (Γ := Γ) hS e1) (hS 0 _ rfl) rfl (Nat.le_of_ble_eq_true rfl) rfl rfl (Nat.le_of_ble_eq_true rfl) d_L_law_1204 ?_
  refine gb_aload_n d_L_law_1207 rfl ?_
  refine gb_rload_n d_L_law_1208 rfl ?_
  refine gb_iload_n d_L_law_1209 rfl ?_
  refine gb_iconst 1 d_L_law_1210 rfl ?_
  refine gb_iadd d_L_law_1211 ?_
  refine gb_riald (f := xs) (fun _ => hX) hi1 d_L_law_1212 ?_
  refine gb_rload_n d_L_law_1213 rfl ?_
  refine gb_iload_n d_L_law_1214 rfl ?_
  refine gb_iconst 2 d_L_law_1215 rfl ?_
  refine gb_iadd d_L_law_1216 ?_
  refine gb_riald (f := xs) (fun _ => hX) hi2 d_L_law_1217 ?_
  refine gb_cVi (As := [.int (xs (x3 + 1).toNatClampNeg), .int (xs (x3 + 2).toNatClampNeg)]) (rest := [.int o1.2]) m_L_166 (t_X11_drawn (Γ := Γ) hS e2) (hS 77 _ rfl) rfl (Nat.le_of_ble_eq_true rfl) rfl rfl (Nat.le_of_ble_eq_true rfl) d_L_law_1218 ?_
  refine gb_icmp_eq 1308 d_L_law_1221 (by decide) (fun _ => ?_) (fun hc => absurd (er) hc)
  exact hN _ _ hI2
set_option maxRecDepth 100000 in
set_option maxHeartbeats 4000000 in
theorem lc_image {Γ : gb_X} {I : List gb_Sh → gb_G → Prop} {Lz : Nat} {xs : Nat → Int32} {Q : gb_P} {kc ks : Nat} {sh : List gb_Sh} {g : gb_G} {x3 : Int32} (hX : va_T .int (Γ.2.2.2.2 0) Lz (fun k => .int (xs k)) (fun q => gb_sz Γ ≤ q) Γ.2.2.2.1 Γ.2.2.2.1.heap) (hi1 : vp_in (x3 + 1) Lz) (hi2 : vp_in (x3 + 2) Lz) (hi3 : vp_in (x3 + 3) Lz) (hi4 : vp_in (x3 + 4) Lz) (hi5 : vp_in (x3 + 5) Lz) (hS : gb_S sh) (hI : I sh g) (hp : ps_image I) (hN : ∀ (sh : List gb_Sh) (g : gb_G), I sh g → gb_J Γ M_L_law 500 Q kc ks sh g 1308 [(0, .retAddr 0), (1, .ref 0), (2, .ref 77), (3, .int x3)] []) : gb_J Γ M_L_law 500 Q (kc + 6) (ks + 869) sh g 1226 [(0, .retAddr 0), (1, .ref 0), (2, .ref 77), (3, .int x3)] [] := by
  obtain ⟨o1, o2, e1, e2, er, hI2⟩ := hp sh g (xs (x3 + 1).toNatClampNeg) hI
  refine gb_J.mono (Nat.le_add_right kc 6) (Nat.le_add_right ks 869) ?_
  refine gb_aload_n d_L_law_1226 rfl ?_
  refine gb_rload_n d_L_law_1227 rfl ?_
  refine gb_iload_n d_L_law_1228 rfl ?_
  refine gb_iconst 1 d_L_law_1229 rfl ?_
  refine gb_iadd d_L_law_1230 ?_
  refine gb_riald (f := xs) (fun _ => hX) hi1 d_L_law_1231 ?_
  refine gb_cVi (As := [.int (xs (x3 + 1).toNatClampNeg)]) (rest := []) m_L_167 (t_X10_image (Γ := Γ) hS e1) (hS 0 _ rfl) rfl (Nat.le_of_ble_eq_true rfl) rfl rfl (Nat.le_of_ble_eq_true rfl) d_L_law_1232 ?_
  refine gb_aload_n d_L_law_1235 rfl ?_
  refine gb_rload_n d_L_law_1236 rfl ?_
  refine gb_iload_n d_L_law_1237 rfl ?_
  refine gb_iconst 1 d_L_law_1238 rfl ?_
  refine gb_iadd d_L_law_1239 ?_
  refine gb_riald (f := xs) (fun _ => hX) hi1 d_L_law_1240 ?_
  refine gb_cVi (As := [.int (xs (x3 + 1).toNatClampNeg)]) (rest := [.int o1.2]) m_L_170 (t_X11_image (Γ := Γ) hS e2) (hS 77 _ rfl) rfl (Nat.le_of_ble_eq_true rfl) rfl rfl (Nat.le_of_ble_eq_true rfl) d_L_law_1241 ?_
  refine gb_icmp_eq 1308 d_L_law_1244 (by decide) (fun _ => ?_) (fun hc => absurd (er) hc)
  exact hN _ _ hI2
set_option maxRecDepth 100000 in
set_option maxHeartbeats 4000000 in
theorem lc_back {Γ : gb_X} {I : List gb_Sh → gb_G → Prop} {Lz : Nat} {xs : Nat → Int32} {Q : gb_P} {kc ks : Nat} {sh : List gb_Sh} {g : gb_G} {x3 : Int32} (hX : va_T .int (Γ.2.2.2.2 0) Lz (fun k => .int (xs k)) (fun q => gb_sz Γ ≤ q) Γ.2.2.2.1 Γ.2.2.2.1.heap) (hi1 : vp_in (x3 + 1) Lz) (hi2 : vp_in (x3 + 2) Lz) (hi3 : vp_in (x3 + 3) Lz) (hi4 : vp_in (x3 + 4) Lz) (hi5 : vp_in (x3 + 5) Lz) (hS : gb_S sh) (hI : I sh g) (hp : ps_back I) (hN : ∀ (sh : List gb_Sh) (g : gb_G), I sh g → gb_J Γ M_L_law 500 Q kc ks sh g 1308 [(0, .retAddr 0), (1, .ref 0), (2, .ref 77), (3, .int x3)] []) : gb_J Γ M_L_law 500 Q (kc + 6) (ks + 869) sh g 1249 [(0, .retAddr 0), (1, .ref 0), (2, .ref 77), (3, .int x3)] [] := by
  obtain ⟨o1, o2, e1, e2, er, hI2⟩ := hp sh g (xs (x3 + 1).toNatClampNeg) hI
  refine gb_J.mono (Nat.le_add_right kc 6) (Nat.le_add_right ks 869) ?_
  refine gb_aload_n d_L_law_1249 rfl ?_
  refine gb_rload_n d_L_law_1250 rfl ?_
  refine gb_iload_n d_L_law_1251 rfl ?_
  refine gb_iconst 1 d_L_law_1252 rfl ?_
  refine gb_iadd d_L_law_1253 ?_
  refine gb_riald (f := xs) (fun _ => hX) hi1 d_L_law_1254 ?_
  refine gb_cVi (As := [.int (xs (x3 + 1).toNatClampNeg)]) (rest := []) m_L_171 (t_X10_back (Γ := Γ) hS e1) (hS 0 _ rfl) rfl (Nat.le_of_ble_eq_true rfl) rfl rfl (Nat.le_of_ble_eq_true rfl) d_L_law_1255 ?_
  refine gb_aload_n d_L_law_1258 rfl ?_
  refine gb_rload_n d_L_law_1259 rfl ?_
  refine gb_iload_n d_L_law_1260 rfl ?_
  refine gb_iconst 1 d_L_law_1261 rfl ?_
  refine gb_iadd d_L_law_1262 ?_
  refine gb_riald (f := xs) (fun _ => hX) hi1 d_L_law_1263 ?_
  refine gb_cVi (As := [.int (xs (x3 + 1).toNatClampNeg)]) (rest := [.int o1.2]) m_L_174 (t_X11_back (Γ := Γ) hS e2) (hS 77 _ rfl) rfl (Nat.le_of_ble_eq_true rfl) rfl rfl (Nat.le_of_ble_eq_true rfl) d_L_law_1264 ?_
  refine gb_icmp_eq 1308 d_L_law_1267 (by decide) (fun _ => ?_) (fun hc => absurd (er) hc)
  exact hN _ _ hI2
set_option maxRecDepth 100000 in
set_option maxHeartbeats 4000000 in
theorem lc_count {Γ : gb_X} {I : List gb_Sh → gb_G → Prop} {Lz : Nat} {xs : Nat → Int32} {Q : gb_P} {kc ks : Nat} {sh : List gb_Sh} {g : gb_G} {x3 : Int32} (hX : va_T .int (Γ.2.2.2.2 0) Lz (fun k => .int (xs k)) (fun q => gb_sz Γ ≤ q) Γ.2.2.2.1 Γ.2.2.2.1.heap) (hi1 : vp_in (x3 + 1) Lz) (hi2 : vp_in (x3 + 2) Lz) (hi3 : vp_in (x3 + 3) Lz) (hi4 : vp_in (x3 + 4) Lz) (hi5 : vp_in (x3 + 5) Lz) (hS : gb_S sh) (hI : I sh g) (hp : ps_count I) (hN : ∀ (sh : List gb_Sh) (g : gb_G), I sh g → gb_J Γ M_L_law 500 Q kc ks sh g 1308 [(0, .retAddr 0), (1, .ref 0), (2, .ref 77), (3, .int x3)] []) : gb_J Γ M_L_law 500 Q (kc + 6) (ks + 869) sh g 1272 [(0, .retAddr 0), (1, .ref 0), (2, .ref 77), (3, .int x3)] [] := by
  obtain ⟨o1, o2, e1, e2, er, hI2⟩ := hp sh g (xs (x3 + 1).toNatClampNeg) hI
  refine gb_J.mono (Nat.le_add_right kc 6) (Nat.le_add_right ks 869) ?_
  refine gb_aload_n d_L_law_1272 rfl ?_
  refine gb_rload_n d_L_law_1273 rfl ?_
  refine gb_iload_n d_L_law_1274 rfl ?_
  refine gb_iconst 1 d_L_law_1275 rfl ?_
  refine gb_iadd d_L_law_1276 ?_
  refine gb_riald (f := xs) (fun _ => hX) hi1 d_L_law_1277 ?_
  refine gb_cVi (As := [.int (xs (x3 + 1).toNatClampNeg)]) (rest := []) m_L_175 (t_X10_count (Γ := Γ) hS e1) (hS 0 _ rfl) rfl (Nat.le_of_ble_eq_true rfl) rfl rfl (Nat.le_of_ble_eq_true rfl) d_L_law_1278 ?_
  refine gb_aload_n d_L_law_1281 rfl ?_
  refine gb_rload_n d_L_law_1282 rfl ?_
  refine gb_iload_n d_L_law_1283 rfl ?_
  refine gb_iconst 1 d_L_law_1284 rfl ?_
  refine gb_iadd d_L_law_1285 ?_
  refine gb_riald (f := xs) (fun _ => hX) hi1 d_L_law_1286 ?_
  refine gb_cVi (As := [.int (xs (x3 + 1).toNatClampNeg)]) (rest := [.int o1.2]) m_L_178 (t_X11_count (Γ := Γ) hS e2) (hS 77 _ rfl) rfl (Nat.le_of_ble_eq_true rfl) rfl rfl (Nat.le_of_ble_eq_true rfl) d_L_law_1287 ?_
  refine gb_icmp_eq 1308 d_L_law_1290 (by decide) (fun _ => ?_) (fun hc => absurd (er) hc)
  exact hN _ _ hI2
set_option maxRecDepth 100000 in
set_option maxHeartbeats 4000000 in
theorem lc_status {Γ : gb_X} {I : List gb_Sh → gb_G → Prop} {Lz : Nat} {xs : Nat → Int32} {Q : gb_P} {kc ks : Nat} {sh : List gb_Sh} {g : gb_G} {x3 : Int32} (hX : va_T .int (Γ.2.2.2.2 0) Lz (fun k => .int (xs k)) (fun q => gb_sz Γ ≤ q) Γ.2.2.2.1 Γ.2.2.2.1.heap) (hi1 : vp_in (x3 + 1) Lz) (hi2 : vp_in (x3 + 2) Lz) (hi3 : vp_in (x3 + 3) Lz) (hi4 : vp_in (x3 + 4) Lz) (hi5 : vp_in (x3 + 5) Lz) (hS : gb_S sh) (hI : I sh g) (hp : ps_status I) (hN : ∀ (sh : List gb_Sh) (g : gb_G), I sh g → gb_J Γ M_L_law 500 Q kc ks sh g 1308 [(0, .retAddr 0), (1, .ref 0), (2, .ref 77), (3, .int x3)] []) : gb_J Γ M_L_law 500 Q (kc + 6) (ks + 869) sh g 1295 [(0, .retAddr 0), (1, .ref 0), (2, .ref 77), (3, .int x3)] [] := by
  obtain ⟨o1, o2, e1, e2, er, hI2⟩ := hp sh g hI
  refine gb_J.mono (Nat.le_add_right kc 6) (Nat.le_add_right ks 869) ?_
  refine gb_aload_n d_L_law_1295 rfl ?_
  refine gb_cVi (As := []) (rest := []) m_L_179 (t_X10_status (Γ := Γ) hS e1) (hS 0 _ rfl) rfl (Nat.le_of_ble_eq_true rfl) rfl rfl (Nat.le_of_ble_eq_true rfl) d_L_law_1296 ?_
  refine gb_aload_n d_L_law_1299 rfl ?_
  refine gb_cVi (As := []) (rest := [.int o1.2]) m_L_182 (t_X11_status (Γ := Γ) hS e2) (hS 77 _ rfl) rfl (Nat.le_of_ble_eq_true rfl) rfl rfl (Nat.le_of_ble_eq_true rfl) d_L_law_1300 ?_
  refine gb_icmp_eq 1308 d_L_law_1303 (by decide) (fun _ => ?_) (fun hc => absurd (er) hc)
  exact hN _ _ hI2
def gb_Pure (I : List gb_Sh → gb_G → Prop) : Prop := ps_good I ∧ ps_of I ∧ ps_asks I ∧ ps_stand I ∧ ps_person I ∧ ps_own I ∧ ps_terms I ∧ ps_feed I ∧ ps_end I ∧ ps_row I ∧ ps_commas I ∧ ps_law I ∧ ps_orders I ∧ ps_fault I ∧ ps_stopped I ∧ ps_force I ∧ ps_lack I ∧ ps_find I ∧ ps_weigh I ∧ ps_pass I ∧ ps_undo I ∧ ps_figure I ∧ ps_turned I ∧ ps_pension I ∧ ps_glad I ∧ ps_round I ∧ ps_spent I ∧ ps_ask I ∧ ps_fair I ∧ ps_hear I ∧ ps_forget I ∧ ps_trend I ∧ ps_does I ∧ ps_compare I ∧ ps_gets I ∧ ps_years I ∧ ps_drawn I ∧ ps_image I ∧ ps_back I ∧ ps_count I ∧ ps_status I
theorem gb_x3 {t j Lz : Nat} (h : 6 * t + 6 ≤ Lz) (hL : Lz ≤ 3072) (hj : j < 6) : vp_in (Int32.ofNat (6 * t) + Int32.ofNat j) Lz := by
  rw [show Int32.ofNat (6 * t) + Int32.ofNat j = Int32.ofNat (6 * t + j) by rw [← Int32.ofNat_add]]
  exact vp_in_nI (by omega) (by omega)
set_option maxRecDepth 100000 in
set_option maxHeartbeats 8000000 in
theorem gb_subL {Lz : Nat} (hL : Lz ≤ 3072) : (Int32.ofNat Lz - 6).toInt = (Lz : Int) - 6 := by
  have h1 : (Int32.ofNat Lz).toInt = (Lz : Int) := Int32.toInt_ofNat_of_lt (by omega)
  have h2 : (6 : Int32).toInt = 6 := by decide
  rw [Int32.toInt_sub, h1, h2, Int.bmod_def]
  omega
theorem gb_ltL {t Lz : Nat} (hL : Lz ≤ 3072) (h : 6 * t + 6 ≤ Lz) : ¬ Int32.ofNat Lz - 6 < Int32.ofNat (6 * t) := by
  rw [Int32.lt_iff_toInt_lt, gb_subL hL, show (Int32.ofNat (6 * t)).toInt = ((6 * t : Nat) : Int) from Int32.toInt_ofNat_of_lt (by omega)]
  omega
theorem gb_exit {Γ : gb_X} {Lz kc ks t : Nat} {xs : Nat → Int32} {sh : List gb_Sh} {g : gb_G} (hL : Lz ≤ 3072) (hX : va_T .int (Γ.2.2.2.2 0) Lz (fun k => .int (xs k)) (fun q => gb_sz Γ ≤ q) Γ.2.2.2.1 Γ.2.2.2.1.heap) (ht : 6 * t ≤ 3072) (h : ¬ 6 * t + 6 ≤ Lz) : gb_J Γ M_L_law 500 (fun _ _ v => v = some (.int 1)) kc ks sh g 18 [(0, .retAddr 0), (1, .ref 0), (2, .ref 77), (3, .int (Int32.ofNat (6 * t)))] [] := by
  refine gb_iload_n d_L_law_18 rfl ?_
  refine gb_rload_n d_L_law_19 rfl ?_
  refine gb_rlen (fun _ => hX) d_L_law_20 ?_
  refine gb_bipush 6 d_L_law_21 rfl ?_
  refine gb_isub d_L_law_23 ?_
  refine gb_icmp_gt 1314 d_L_law_24 (by decide) (fun hc => ?_) (fun hc => absurd ?_ hc)
  · refine gb_iconst 1 d_L_law_1314 rfl ?_
    exact gb_zret d_L_law_1315 rfl rfl rfl
  · rw [Int32.lt_iff_toInt_lt, gb_subL hL, show (Int32.ofNat (6 * t)).toInt = ((6 * t : Nat) : Int) from Int32.toInt_ofNat_of_lt (by omega)]
    omega
set_option maxRecDepth 100000 in
set_option maxHeartbeats 8000000 in
theorem gb_loop {Γ : gb_X} {I : List gb_Sh → gb_G → Prop} {Lz : Nat} {xs : Nat → Int32} (hL : Lz ≤ 3072) (hX : va_T .int (Γ.2.2.2.2 0) Lz (fun k => .int (xs k)) (fun q => gb_sz Γ ≤ q) Γ.2.2.2.1 Γ.2.2.2.1.heap) (hIS : ∀ sh g, I sh g → gb_S sh ∧ 105 ≤ sh.length) (hP : gb_Pure I) : ∀ (n t : Nat) (sh : List gb_Sh) (g : gb_G), Lz + 6 ≤ 6 * t + 6 * n → 6 * t ≤ 3072 → I sh g → gb_J Γ M_L_law 500 (fun _ _ v => v = some (.int 1)) (6 * n) (869 * n) sh g 18 [(0, .retAddr 0), (1, .ref 0), (2, .ref 77), (3, .int (Int32.ofNat (6 * t)))] [] := by
  obtain ⟨h_good, h_of, h_asks, h_stand, h_person, h_own, h_terms, h_feed, h_end, h_row, h_commas, h_law, h_orders, h_fault, h_stopped, h_force, h_lack, h_find, h_weigh, h_pass, h_undo, h_figure, h_turned, h_pension, h_glad, h_round, h_spent, h_ask, h_fair, h_hear, h_forget, h_trend, h_does, h_compare, h_gets, h_years, h_drawn, h_image, h_back, h_count, h_status⟩ := hP
  intro n
  induction n with
  | zero =>
    intro t sh g h1 h2 hI
    exact gb_exit hL hX h2 (by omega)
  | succ n ih =>
    intro t sh g h1 h2 hI
    by_cases hlt : 6 * t + 6 ≤ Lz
    · obtain ⟨hS, h105⟩ := hIS sh g hI
      have hi0 : vp_in (Int32.ofNat (6 * t)) Lz := vp_in_nI (by omega) (by omega)
      have hi1 : vp_in (Int32.ofNat (6 * t) + 1) Lz := gb_x3 (j := 1) hlt hL (by decide)
      have hi2 : vp_in (Int32.ofNat (6 * t) + 2) Lz := gb_x3 (j := 2) hlt hL (by decide)
      have hi3 : vp_in (Int32.ofNat (6 * t) + 3) Lz := gb_x3 (j := 3) hlt hL (by decide)
      have hi4 : vp_in (Int32.ofNat (6 * t) + 4) Lz := gb_x3 (j := 4) hlt hL (by decide)
      have hi5 : vp_in (Int32.ofNat (6 * t) + 5) Lz := gb_x3 (j := 5) hlt hL (by decide)
      have hN : ∀ (sh : List gb_Sh) (g : gb_G), I sh g → gb_J Γ M_L_law 500 (fun _ _ v => v = some (.int 1)) (6 * n) (869 * n) sh g 1308 [(0, .retAddr 0), (1, .ref 0), (2, .ref 77), (3, .int (Int32.ofNat (6 * t)))] [] := by
        intro sh g hI
        refine gb_iinc (Int32.ofNat (6 * (t + 1))) [(3, .int (Int32.ofNat (6 * (t + 1)))), (0, .retAddr 0), (1, .ref 0), (2, .ref 77)] d_L_law_1308 (Nat.le_of_ble_eq_true rfl) rfl (by rw [show 6 * (t + 1) = 6 * t + 6 by omega, Int32.ofNat_add]; rfl) rfl ?_
        refine gb_goto 18 d_L_law_1311 (by decide) ?_
        refine gb_pick (lv' := [(0, .retAddr 0), (1, .ref 0), (2, .ref 77), (3, .int (Int32.ofNat (6 * (t + 1))))]) [1, 2, 3, 0] rfl ?_
        exact ih (t + 1) sh g (by omega) (by omega) hI
      refine gb_J.mono (kc' := 6 * n + 6) (ks' := 869 * n + 869) (by omega) (by omega) ?_
      refine gb_iload_n d_L_law_18 rfl ?_
      refine gb_rload_n d_L_law_19 rfl ?_
      refine gb_rlen (fun _ => hX) d_L_law_20 ?_
      refine gb_bipush 6 d_L_law_21 rfl ?_
      refine gb_isub d_L_law_23 ?_
      refine gb_icmp_gt 1314 d_L_law_24 (by decide) (fun hc => absurd hc (gb_ltL hL hlt)) (fun hc => ?_)
      refine gb_rload_n d_L_law_27 rfl ?_
      refine gb_iload_n d_L_law_28 rfl ?_
      refine gb_riald (f := xs) (fun _ => hX) hi0 d_L_law_29 ?_
      refine gb_bipush 63 d_L_law_30 rfl ?_
      refine gb_iand d_L_law_32 ?_
      generalize xs (Int32.ofNat (6 * t)).toNatClampNeg &&& 63 = z
      by_cases hc0 : z = 0
      · refine gb_tabI 212 hc0 d_L_law_33 (by decide) (by decide) rfl (by decide) ?_
        exact lc_good hX hi1 hi2 hi3 hi4 hi5 hS hI h_good hN
      by_cases hc1 : z = 1
      · refine gb_tabI 275 hc1 d_L_law_33 (by decide) (by decide) rfl (by decide) ?_
        exact lc_of hX hi1 hi2 hi3 hi4 hi5 hS hI h_of hN
      by_cases hc2 : z = 2
      · refine gb_tabI 308 hc2 d_L_law_33 (by decide) (by decide) rfl (by decide) ?_
        exact lc_asks hX hi1 hi2 hi3 hi4 hi5 hS hI h_asks hN
      by_cases hc3 : z = 3
      · refine gb_tabI 341 hc3 d_L_law_33 (by decide) (by decide) rfl (by decide) ?_
        exact lc_stand hX hi1 hi2 hi3 hi4 hi5 hS hI h_stand hN
      by_cases hc4 : z = 4
      · refine gb_tabI 374 hc4 d_L_law_33 (by decide) (by decide) rfl (by decide) ?_
        exact lc_person hX hi1 hi2 hi3 hi4 hi5 hS hI h_person hN
      by_cases hc5 : z = 5
      · refine gb_tabI 387 hc5 d_L_law_33 (by decide) (by decide) rfl (by decide) ?_
        exact lc_own hX hi1 hi2 hi3 hi4 hi5 hS hI h_own hN
      by_cases hc6 : z = 6
      · refine gb_tabI 430 hc6 d_L_law_33 (by decide) (by decide) rfl (by decide) ?_
        exact lc_terms hX hi1 hi2 hi3 hi4 hi5 hS hI h_terms hN
      by_cases hc7 : z = 7
      · refine gb_tabI 463 hc7 d_L_law_33 (by decide) (by decide) rfl (by decide) ?_
        exact lc_feed hX hi1 hi2 hi3 hi4 hi5 hS hI h_feed hN
      by_cases hc8 : z = 8
      · refine gb_tabI 526 hc8 d_L_law_33 (by decide) (by decide) rfl (by decide) ?_
        exact lc_end hX hi1 hi2 hi3 hi4 hi5 hS hI h_end hN
      by_cases hc9 : z = 9
      · refine gb_tabI 549 hc9 d_L_law_33 (by decide) (by decide) rfl (by decide) ?_
        exact lc_row hX hi1 hi2 hi3 hi4 hi5 hS hI h_row hN
      by_cases hc10 : z = 10
      · refine gb_tabI 562 hc10 d_L_law_33 (by decide) (by decide) rfl (by decide) ?_
        exact lc_commas hX hi1 hi2 hi3 hi4 hi5 hS hI h_commas hN
      by_cases hc11 : z = 11
      · refine gb_tabI 575 hc11 d_L_law_33 (by decide) (by decide) rfl (by decide) ?_
        exact lc_law hX hi1 hi2 hi3 hi4 hi5 hS hI h105 h_law hN
      by_cases hc12 : z = 12
      · refine gb_tabI 588 hc12 d_L_law_33 (by decide) (by decide) rfl (by decide) ?_
        exact lc_orders hX hi1 hi2 hi3 hi4 hi5 hS hI h_orders hN
      by_cases hc13 : z = 13
      · refine gb_tabI 601 hc13 d_L_law_33 (by decide) (by decide) rfl (by decide) ?_
        exact lc_fault hX hi1 hi2 hi3 hi4 hi5 hS hI h_fault hN
      by_cases hc14 : z = 14
      · refine gb_tabI 614 hc14 d_L_law_33 (by decide) (by decide) rfl (by decide) ?_
        exact lc_stopped hX hi1 hi2 hi3 hi4 hi5 hS hI h_stopped hN
      by_cases hc15 : z = 15
      · refine gb_tabI 627 hc15 d_L_law_33 (by decide) (by decide) rfl (by decide) ?_
        exact lc_force hX hi1 hi2 hi3 hi4 hi5 hS hI h_force hN
      by_cases hc16 : z = 16
      · refine gb_tabI 650 hc16 d_L_law_33 (by decide) (by decide) rfl (by decide) ?_
        exact lc_lack hX hi1 hi2 hi3 hi4 hi5 hS hI h_lack hN
      by_cases hc17 : z = 17
      · refine gb_tabI 673 hc17 d_L_law_33 (by decide) (by decide) rfl (by decide) ?_
        exact lc_find hX hi1 hi2 hi3 hi4 hi5 hS hI h_find hN
      by_cases hc18 : z = 18
      · refine gb_tabI 696 hc18 d_L_law_33 (by decide) (by decide) rfl (by decide) ?_
        exact lc_weigh hX hi1 hi2 hi3 hi4 hi5 hS hI h_weigh hN
      by_cases hc19 : z = 19
      · refine gb_tabI 729 hc19 d_L_law_33 (by decide) (by decide) rfl (by decide) ?_
        exact lc_pass hX hi1 hi2 hi3 hi4 hi5 hS hI h_pass hN
      by_cases hc20 : z = 20
      · refine gb_tabI 742 hc20 d_L_law_33 (by decide) (by decide) rfl (by decide) ?_
        exact lc_undo hX hi1 hi2 hi3 hi4 hi5 hS hI h_undo hN
      by_cases hc21 : z = 21
      · refine gb_tabI 755 hc21 d_L_law_33 (by decide) (by decide) rfl (by decide) ?_
        exact lc_figure hX hi1 hi2 hi3 hi4 hi5 hS hI h_figure hN
      by_cases hc22 : z = 22
      · refine gb_tabI 789 hc22 d_L_law_33 (by decide) (by decide) rfl (by decide) ?_
        exact lc_turned hX hi1 hi2 hi3 hi4 hi5 hS hI h_turned hN
      by_cases hc23 : z = 23
      · refine gb_tabI 823 hc23 d_L_law_33 (by decide) (by decide) rfl (by decide) ?_
        exact lc_pension hX hi1 hi2 hi3 hi4 hi5 hS hI h_pension hN
      by_cases hc24 : z = 24
      · refine gb_tabI 836 hc24 d_L_law_33 (by decide) (by decide) rfl (by decide) ?_
        exact lc_glad hX hi1 hi2 hi3 hi4 hi5 hS hI h_glad hN
      by_cases hc25 : z = 25
      · refine gb_tabI 869 hc25 d_L_law_33 (by decide) (by decide) rfl (by decide) ?_
        exact lc_round hX hi1 hi2 hi3 hi4 hi5 hS hI h_round hN
      by_cases hc26 : z = 26
      · refine gb_tabI 902 hc26 d_L_law_33 (by decide) (by decide) rfl (by decide) ?_
        exact lc_spent hX hi1 hi2 hi3 hi4 hi5 hS hI h_spent hN
      by_cases hc27 : z = 27
      · refine gb_tabI 945 hc27 d_L_law_33 (by decide) (by decide) rfl (by decide) ?_
        exact lc_ask hX hi1 hi2 hi3 hi4 hi5 hS hI h_ask hN
      by_cases hc28 : z = 28
      · refine gb_tabI 988 hc28 d_L_law_33 (by decide) (by decide) rfl (by decide) ?_
        exact lc_fair hX hi1 hi2 hi3 hi4 hi5 hS hI h_fair hN
      by_cases hc29 : z = 29
      · refine gb_tabI 1021 hc29 d_L_law_33 (by decide) (by decide) rfl (by decide) ?_
        exact lc_hear hX hi1 hi2 hi3 hi4 hi5 hS hI h_hear hN
      by_cases hc30 : z = 30
      · refine gb_tabI 1044 hc30 d_L_law_33 (by decide) (by decide) rfl (by decide) ?_
        exact lc_forget hX hi1 hi2 hi3 hi4 hi5 hS hI h_forget hN
      by_cases hc31 : z = 31
      · refine gb_tabI 1057 hc31 d_L_law_33 (by decide) (by decide) rfl (by decide) ?_
        exact lc_trend hX hi1 hi2 hi3 hi4 hi5 hS hI h_trend hN
      by_cases hc32 : z = 32
      · refine gb_tabI 1080 hc32 d_L_law_33 (by decide) (by decide) rfl (by decide) ?_
        exact lc_does hX hi1 hi2 hi3 hi4 hi5 hS hI h_does hN
      by_cases hc33 : z = 33
      · refine gb_tabI 1103 hc33 d_L_law_33 (by decide) (by decide) rfl (by decide) ?_
        exact lc_compare hX hi1 hi2 hi3 hi4 hi5 hS hI h_compare hN
      by_cases hc34 : z = 34
      · refine gb_tabI 1126 hc34 d_L_law_33 (by decide) (by decide) rfl (by decide) ?_
        exact lc_gets hX hi1 hi2 hi3 hi4 hi5 hS hI h_gets hN
      by_cases hc35 : z = 35
      · refine gb_tabI 1160 hc35 d_L_law_33 (by decide) (by decide) rfl (by decide) ?_
        exact lc_years hX hi1 hi2 hi3 hi4 hi5 hS hI h_years hN
      by_cases hc36 : z = 36
      · refine gb_tabI 1193 hc36 d_L_law_33 (by decide) (by decide) rfl (by decide) ?_
        exact lc_drawn hX hi1 hi2 hi3 hi4 hi5 hS hI h_drawn hN
      by_cases hc37 : z = 37
      · refine gb_tabI 1226 hc37 d_L_law_33 (by decide) (by decide) rfl (by decide) ?_
        exact lc_image hX hi1 hi2 hi3 hi4 hi5 hS hI h_image hN
      by_cases hc38 : z = 38
      · refine gb_tabI 1249 hc38 d_L_law_33 (by decide) (by decide) rfl (by decide) ?_
        exact lc_back hX hi1 hi2 hi3 hi4 hi5 hS hI h_back hN
      by_cases hc39 : z = 39
      · refine gb_tabI 1272 hc39 d_L_law_33 (by decide) (by decide) rfl (by decide) ?_
        exact lc_count hX hi1 hi2 hi3 hi4 hi5 hS hI h_count hN
      by_cases hc40 : z = 40
      · refine gb_tabI 1295 hc40 d_L_law_33 (by decide) (by decide) rfl (by decide) ?_
        exact lc_status hX hi1 hi2 hi3 hi4 hi5 hS hI h_status hN
      refine gb_tabO 1308 d_L_law_33 (gb_out 41 (by decide) (by decide) (by decide) (fun i hi => match i, hi with | 0, _ => hc0 | 1, _ => hc1 | 2, _ => hc2 | 3, _ => hc3 | 4, _ => hc4 | 5, _ => hc5 | 6, _ => hc6 | 7, _ => hc7 | 8, _ => hc8 | 9, _ => hc9 | 10, _ => hc10 | 11, _ => hc11 | 12, _ => hc12 | 13, _ => hc13 | 14, _ => hc14 | 15, _ => hc15 | 16, _ => hc16 | 17, _ => hc17 | 18, _ => hc18 | 19, _ => hc19 | 20, _ => hc20 | 21, _ => hc21 | 22, _ => hc22 | 23, _ => hc23 | 24, _ => hc24 | 25, _ => hc25 | 26, _ => hc26 | 27, _ => hc27 | 28, _ => hc28 | 29, _ => hc29 | 30, _ => hc30 | 31, _ => hc31 | 32, _ => hc32 | 33, _ => hc33 | 34, _ => hc34 | 35, _ => hc35 | 36, _ => hc36 | 37, _ => hc37 | 38, _ => hc38 | 39, _ => hc39 | 40, _ => hc40 | q + 41, h9 => absurd h9 (Nat.not_lt.mpr (Nat.le_add_left _ _)))) (by decide) ?_
      exact gb_J.mono (Nat.le_add_right _ _) (Nat.le_add_right _ _) (hN sh g hI)
    · exact gb_exit hL hX h2 hlt
