theorem va_tabs0 {own tx : String} {k : Nat} {A : Array Value} {s : State} (h : (Cond.stringRef own k tx).before A s = true) : (Cond.stringRef own k tx).before #[] s = true := by
  first
    | exact va_tabs rfl rfl h
    | (simp only [Cond.before, Cond.holds, Cond.value] at h ⊢; exact h)
theorem va_str0 {own : String} {k a : Nat} {A : Array Value} {s : State} (h : (Term.string own k).eval A s none [] s = some (.ref a)) : (Term.string own k).eval #[] s none [] s = some (.ref a) := by
  first
    | exact h
    | (simp only [Term.eval] at h ⊢; exact h)
theorem wl_top : Cond.laysStatic "GladBasket" "TOP_TERM" "[I" ∈ lw_tbl := (gb_t3 _ (List.mem_of_getElem? (i := 15) rfl))
theorem wl_cs : Cond.laysStatic "java/lang/String" "COMPACT_STRINGS" "Z" ∈ lw_tbl := (gb_t3 _ (List.mem_of_getElem? (i := 88) rfl))
theorem wl_sf : Cond.laysStatic "jdk/internal/util/Preconditions" "SIOOBE_FORMATTER" "Ljava/util/function/BiFunction;" ∈ lw_tbl := (gb_t3 _ (List.mem_of_getElem? (i := 104) rfl))
theorem wl_s0 : Cond.stringRef "GladBasket$Reader" 55 "lack find weigh pass" ∈ lw_tbl := (gb_t3 _ (List.mem_of_getElem? (i := 73) rfl))
theorem wl_s1 : Cond.stringRef "GladBasket$Reader" 57 "moves counts glads bars" ∈ lw_tbl := (gb_t3 _ (List.mem_of_getElem? (i := 74) rfl))
theorem wl_s2 : Cond.stringRef "GladBasket$Reader" 76 "by" ∈ lw_tbl := (gb_t4 _ (List.mem_of_getElem? (i := 5) rfl))
theorem wl_s3 : Cond.stringRef "GladBasket$Reader" 82 "times" ∈ lw_tbl := (gb_t4 _ (List.mem_of_getElem? (i := 10) rfl))
theorem wl_s4 : Cond.stringRef "GladBasket$Reader" 87 "if" ∈ lw_tbl := (gb_t4 _ (List.mem_of_getElem? (i := 15) rfl))
theorem wl_s5 : Cond.stringRef "GladBasket$Reader" 112 "or" ∈ lw_tbl := (gb_t4 _ (List.mem_of_getElem? (i := 35) rfl))
theorem wl_s6 : Cond.stringRef "GladBasket$Reader" 124 "and" ∈ lw_tbl := (gb_t4 _ (List.mem_of_getElem? (i := 30) rfl))
theorem wl_s7 : Cond.stringRef "GladBasket$Reader" 126 "not" ∈ lw_tbl := (gb_t4 _ (List.mem_of_getElem? (i := 28) rfl))
theorem wl_s8 : Cond.stringRef "GladBasket$Reader" 128 "<>=" ∈ lw_tbl := (gb_t4 _ (List.mem_of_getElem? (i := 29) rfl))
theorem wl_s9 : Cond.stringRef "GladBasket$Reader" 136 "+-" ∈ lw_tbl := (gb_t3 _ (List.mem_of_getElem? (i := 239) rfl))
theorem wl_s10 : Cond.stringRef "GladBasket$Reader" 141 "*/%" ∈ lw_tbl := (gb_t3 _ (List.mem_of_getElem? (i := 175) rfl))
theorem wl_s11 : Cond.stringRef "GladBasket$Reader" 152 "month done latest figure lacking now weight" ∈ lw_tbl := (gb_t3 _ (List.mem_of_getElem? (i := 172) rfl))
theorem wl_s12 : Cond.stringRef "GladBasket$Reader" 154 "good base now weight glad lacks place month mood" ∈ lw_tbl := (gb_t3 _ (List.mem_of_getElem? (i := 173) rfl))
theorem wl_i0 : Cond.instantiable RX0 10 ∈ lw_tbl := (gb_t1 _ (List.mem_of_getElem? (i := 30) rfl))
theorem wl_i1 : Cond.instantiable RX1 7 ∈ lw_tbl := (gb_t1 _ (List.mem_of_getElem? (i := 224) rfl))
theorem wl_i2 : Cond.instantiable RX2 2 ∈ lw_tbl := (gb_t1 _ (List.mem_of_getElem? (i := 230) rfl))
theorem wl_i3 : Cond.instantiable RX3 5 ∈ lw_tbl := (gb_t1 _ (List.mem_of_getElem? (i := 86) rfl))
theorem wl_i4 : Cond.instantiable RX4 3 ∈ lw_tbl := (gb_t1 _ (List.mem_of_getElem? (i := 208) rfl))
theorem wl_i5 : Cond.instantiable RX5 1 ∈ lw_tbl := (gb_t1 _ (List.mem_of_getElem? (i := 198) rfl))
theorem wl_i6 : Cond.instantiable RX6 15 ∈ lw_tbl := (gb_t2 _ (List.mem_of_getElem? (i := 27) rfl))
theorem wl_i7 : Cond.instantiable RX7 8 ∈ lw_tbl := (gb_t1 _ (List.mem_of_getElem? (i := 140) rfl))
theorem wl_i8 : Cond.instantiable RX8 4 ∈ lw_tbl := (gb_t1 _ (List.mem_of_getElem? (i := 134) rfl))
theorem wl_i9 : Cond.instantiable RX9 5 ∈ lw_tbl := (gb_t1 _ (List.mem_of_getElem? (i := 109) rfl))
theorem wl_i10 : Cond.instantiable RX10 19 ∈ lw_tbl := (gb_t1 _ (List.mem_of_getElem? (i := 22) rfl))
theorem wl_i11 : Cond.instantiable RX11 56 ∈ lw_tbl := (gb_t5 _ (List.mem_of_getElem? (i := 182) rfl))
def gb_tm (i : Nat) : Term := .string "GladBasket$Reader" ([55, 57, 76, 82, 87, 112, 124, 126, 128, 136, 141, 152, 154].getD i 0)
abbrev gb_fl : List Cond := flatC (Jvm.Cond.and given_1 narrow_1)
theorem wn_ex : ∀ i, i < 13 → Cond.exactly (gb_tm i) "java/lang/String" ∈ gb_fl := by decide +kernel
theorem wn_co : ∀ i, i < 13 → Cond.eq (.field (gb_tm i) "java/lang/String" "coder" "B") (.int 0) ∈ gb_fl := by decide +kernel
theorem wn_ar : ∀ i, i < 13 → Cond.arrayOf (.field (gb_tm i) "java/lang/String" "value" "[B") .byte ∈ gb_fl := by decide +kernel
theorem wn_le : ∀ i, i < 13 → Cond.eq (.length (.field (gb_tm i) "java/lang/String" "value" "[B")) (.int (Int32.ofNat (gb_sl.getD i 0))) ∈ gb_fl := by decide +kernel
theorem wn_el : ∀ i, i < 13 → ∀ j, j < gb_sl.getD i 0 → Cond.eq (.elem (.field (gb_tm i) "java/lang/String" "value" "[B") (.int (Int32.ofNat j))) (.int ((gb_sb.getD i []).getD j 0)) ∈ gb_fl := by decide +kernel
theorem wq_0_1 : Cond.not (Cond.eq (gb_tm 0) (gb_tm 1)) ∈ gb_fl := List.mem_of_getElem? (i := 90) (by decide +kernel)
theorem wq_0_11 : Cond.not (Cond.eq (gb_tm 0) (gb_tm 11)) ∈ gb_fl := List.mem_of_getElem? (i := 138) (by decide +kernel)
theorem wq_1_11 : Cond.not (Cond.eq (gb_tm 1) (gb_tm 11)) ∈ gb_fl := List.mem_of_getElem? (i := 139) (by decide +kernel)
theorem wq_0_12 : Cond.not (Cond.eq (gb_tm 0) (gb_tm 12)) ∈ gb_fl := List.mem_of_getElem? (i := 192) (by decide +kernel)
theorem wq_1_12 : Cond.not (Cond.eq (gb_tm 1) (gb_tm 12)) ∈ gb_fl := List.mem_of_getElem? (i := 193) (by decide +kernel)
theorem wq_11_12 : Cond.not (Cond.eq (gb_tm 11) (gb_tm 12)) ∈ gb_fl := List.mem_of_getElem? (i := 194) (by decide +kernel)
theorem wq_0_10 : Cond.not (Cond.eq (gb_tm 0) (gb_tm 10)) ∈ gb_fl := List.mem_of_getElem? (i := 202) (by decide +kernel)
theorem wq_1_10 : Cond.not (Cond.eq (gb_tm 1) (gb_tm 10)) ∈ gb_fl := List.mem_of_getElem? (i := 203) (by decide +kernel)
theorem wq_11_10 : Cond.not (Cond.eq (gb_tm 11) (gb_tm 10)) ∈ gb_fl := List.mem_of_getElem? (i := 204) (by decide +kernel)
theorem wq_12_10 : Cond.not (Cond.eq (gb_tm 12) (gb_tm 10)) ∈ gb_fl := List.mem_of_getElem? (i := 205) (by decide +kernel)
theorem wq_0_9 : Cond.not (Cond.eq (gb_tm 0) (gb_tm 9)) ∈ gb_fl := List.mem_of_getElem? (i := 212) (by decide +kernel)
theorem wq_1_9 : Cond.not (Cond.eq (gb_tm 1) (gb_tm 9)) ∈ gb_fl := List.mem_of_getElem? (i := 213) (by decide +kernel)
theorem wq_11_9 : Cond.not (Cond.eq (gb_tm 11) (gb_tm 9)) ∈ gb_fl := List.mem_of_getElem? (i := 214) (by decide +kernel)
theorem wq_12_9 : Cond.not (Cond.eq (gb_tm 12) (gb_tm 9)) ∈ gb_fl := List.mem_of_getElem? (i := 215) (by decide +kernel)
theorem wq_10_9 : Cond.not (Cond.eq (gb_tm 10) (gb_tm 9)) ∈ gb_fl := List.mem_of_getElem? (i := 216) (by decide +kernel)
theorem wq_0_2 : Cond.not (Cond.eq (gb_tm 0) (gb_tm 2)) ∈ gb_fl := List.mem_of_getElem? (i := 223) (by decide +kernel)
theorem wq_1_2 : Cond.not (Cond.eq (gb_tm 1) (gb_tm 2)) ∈ gb_fl := List.mem_of_getElem? (i := 224) (by decide +kernel)
theorem wq_11_2 : Cond.not (Cond.eq (gb_tm 11) (gb_tm 2)) ∈ gb_fl := List.mem_of_getElem? (i := 225) (by decide +kernel)
theorem wq_12_2 : Cond.not (Cond.eq (gb_tm 12) (gb_tm 2)) ∈ gb_fl := List.mem_of_getElem? (i := 226) (by decide +kernel)
theorem wq_10_2 : Cond.not (Cond.eq (gb_tm 10) (gb_tm 2)) ∈ gb_fl := List.mem_of_getElem? (i := 227) (by decide +kernel)
theorem wq_9_2 : Cond.not (Cond.eq (gb_tm 9) (gb_tm 2)) ∈ gb_fl := List.mem_of_getElem? (i := 228) (by decide +kernel)
theorem wq_0_3 : Cond.not (Cond.eq (gb_tm 0) (gb_tm 3)) ∈ gb_fl := List.mem_of_getElem? (i := 238) (by decide +kernel)
theorem wq_1_3 : Cond.not (Cond.eq (gb_tm 1) (gb_tm 3)) ∈ gb_fl := List.mem_of_getElem? (i := 239) (by decide +kernel)
theorem wq_11_3 : Cond.not (Cond.eq (gb_tm 11) (gb_tm 3)) ∈ gb_fl := List.mem_of_getElem? (i := 240) (by decide +kernel)
theorem wq_12_3 : Cond.not (Cond.eq (gb_tm 12) (gb_tm 3)) ∈ gb_fl := List.mem_of_getElem? (i := 241) (by decide +kernel)
theorem wq_10_3 : Cond.not (Cond.eq (gb_tm 10) (gb_tm 3)) ∈ gb_fl := List.mem_of_getElem? (i := 242) (by decide +kernel)
theorem wq_9_3 : Cond.not (Cond.eq (gb_tm 9) (gb_tm 3)) ∈ gb_fl := List.mem_of_getElem? (i := 243) (by decide +kernel)
theorem wq_2_3 : Cond.not (Cond.eq (gb_tm 2) (gb_tm 3)) ∈ gb_fl := List.mem_of_getElem? (i := 244) (by decide +kernel)
theorem wq_0_4 : Cond.not (Cond.eq (gb_tm 0) (gb_tm 4)) ∈ gb_fl := List.mem_of_getElem? (i := 251) (by decide +kernel)
theorem wq_1_4 : Cond.not (Cond.eq (gb_tm 1) (gb_tm 4)) ∈ gb_fl := List.mem_of_getElem? (i := 252) (by decide +kernel)
theorem wq_11_4 : Cond.not (Cond.eq (gb_tm 11) (gb_tm 4)) ∈ gb_fl := List.mem_of_getElem? (i := 253) (by decide +kernel)
theorem wq_12_4 : Cond.not (Cond.eq (gb_tm 12) (gb_tm 4)) ∈ gb_fl := List.mem_of_getElem? (i := 254) (by decide +kernel)
theorem wq_10_4 : Cond.not (Cond.eq (gb_tm 10) (gb_tm 4)) ∈ gb_fl := List.mem_of_getElem? (i := 255) (by decide +kernel)
theorem wq_9_4 : Cond.not (Cond.eq (gb_tm 9) (gb_tm 4)) ∈ gb_fl := List.mem_of_getElem? (i := 256) (by decide +kernel)
theorem wq_2_4 : Cond.not (Cond.eq (gb_tm 2) (gb_tm 4)) ∈ gb_fl := List.mem_of_getElem? (i := 257) (by decide +kernel)
theorem wq_3_4 : Cond.not (Cond.eq (gb_tm 3) (gb_tm 4)) ∈ gb_fl := List.mem_of_getElem? (i := 258) (by decide +kernel)
theorem wq_0_7 : Cond.not (Cond.eq (gb_tm 0) (gb_tm 7)) ∈ gb_fl := List.mem_of_getElem? (i := 266) (by decide +kernel)
theorem wq_1_7 : Cond.not (Cond.eq (gb_tm 1) (gb_tm 7)) ∈ gb_fl := List.mem_of_getElem? (i := 267) (by decide +kernel)
theorem wq_11_7 : Cond.not (Cond.eq (gb_tm 11) (gb_tm 7)) ∈ gb_fl := List.mem_of_getElem? (i := 268) (by decide +kernel)
theorem wq_12_7 : Cond.not (Cond.eq (gb_tm 12) (gb_tm 7)) ∈ gb_fl := List.mem_of_getElem? (i := 269) (by decide +kernel)
theorem wq_10_7 : Cond.not (Cond.eq (gb_tm 10) (gb_tm 7)) ∈ gb_fl := List.mem_of_getElem? (i := 270) (by decide +kernel)
theorem wq_9_7 : Cond.not (Cond.eq (gb_tm 9) (gb_tm 7)) ∈ gb_fl := List.mem_of_getElem? (i := 271) (by decide +kernel)
theorem wq_2_7 : Cond.not (Cond.eq (gb_tm 2) (gb_tm 7)) ∈ gb_fl := List.mem_of_getElem? (i := 272) (by decide +kernel)
theorem wq_3_7 : Cond.not (Cond.eq (gb_tm 3) (gb_tm 7)) ∈ gb_fl := List.mem_of_getElem? (i := 273) (by decide +kernel)
theorem wq_4_7 : Cond.not (Cond.eq (gb_tm 4) (gb_tm 7)) ∈ gb_fl := List.mem_of_getElem? (i := 274) (by decide +kernel)
theorem wq_0_8 : Cond.not (Cond.eq (gb_tm 0) (gb_tm 8)) ∈ gb_fl := List.mem_of_getElem? (i := 282) (by decide +kernel)
theorem wq_1_8 : Cond.not (Cond.eq (gb_tm 1) (gb_tm 8)) ∈ gb_fl := List.mem_of_getElem? (i := 283) (by decide +kernel)
theorem wq_11_8 : Cond.not (Cond.eq (gb_tm 11) (gb_tm 8)) ∈ gb_fl := List.mem_of_getElem? (i := 284) (by decide +kernel)
theorem wq_12_8 : Cond.not (Cond.eq (gb_tm 12) (gb_tm 8)) ∈ gb_fl := List.mem_of_getElem? (i := 285) (by decide +kernel)
theorem wq_10_8 : Cond.not (Cond.eq (gb_tm 10) (gb_tm 8)) ∈ gb_fl := List.mem_of_getElem? (i := 286) (by decide +kernel)
theorem wq_9_8 : Cond.not (Cond.eq (gb_tm 9) (gb_tm 8)) ∈ gb_fl := List.mem_of_getElem? (i := 287) (by decide +kernel)
theorem wq_2_8 : Cond.not (Cond.eq (gb_tm 2) (gb_tm 8)) ∈ gb_fl := List.mem_of_getElem? (i := 288) (by decide +kernel)
theorem wq_3_8 : Cond.not (Cond.eq (gb_tm 3) (gb_tm 8)) ∈ gb_fl := List.mem_of_getElem? (i := 289) (by decide +kernel)
theorem wq_4_8 : Cond.not (Cond.eq (gb_tm 4) (gb_tm 8)) ∈ gb_fl := List.mem_of_getElem? (i := 290) (by decide +kernel)
theorem wq_7_8 : Cond.not (Cond.eq (gb_tm 7) (gb_tm 8)) ∈ gb_fl := List.mem_of_getElem? (i := 291) (by decide +kernel)
theorem wq_0_6 : Cond.not (Cond.eq (gb_tm 0) (gb_tm 6)) ∈ gb_fl := List.mem_of_getElem? (i := 299) (by decide +kernel)
theorem wq_1_6 : Cond.not (Cond.eq (gb_tm 1) (gb_tm 6)) ∈ gb_fl := List.mem_of_getElem? (i := 300) (by decide +kernel)
theorem wq_11_6 : Cond.not (Cond.eq (gb_tm 11) (gb_tm 6)) ∈ gb_fl := List.mem_of_getElem? (i := 301) (by decide +kernel)
theorem wq_12_6 : Cond.not (Cond.eq (gb_tm 12) (gb_tm 6)) ∈ gb_fl := List.mem_of_getElem? (i := 302) (by decide +kernel)
theorem wq_10_6 : Cond.not (Cond.eq (gb_tm 10) (gb_tm 6)) ∈ gb_fl := List.mem_of_getElem? (i := 303) (by decide +kernel)
theorem wq_9_6 : Cond.not (Cond.eq (gb_tm 9) (gb_tm 6)) ∈ gb_fl := List.mem_of_getElem? (i := 304) (by decide +kernel)
theorem wq_2_6 : Cond.not (Cond.eq (gb_tm 2) (gb_tm 6)) ∈ gb_fl := List.mem_of_getElem? (i := 305) (by decide +kernel)
theorem wq_3_6 : Cond.not (Cond.eq (gb_tm 3) (gb_tm 6)) ∈ gb_fl := List.mem_of_getElem? (i := 306) (by decide +kernel)
theorem wq_4_6 : Cond.not (Cond.eq (gb_tm 4) (gb_tm 6)) ∈ gb_fl := List.mem_of_getElem? (i := 307) (by decide +kernel)
theorem wq_7_6 : Cond.not (Cond.eq (gb_tm 7) (gb_tm 6)) ∈ gb_fl := List.mem_of_getElem? (i := 308) (by decide +kernel)
theorem wq_8_6 : Cond.not (Cond.eq (gb_tm 8) (gb_tm 6)) ∈ gb_fl := List.mem_of_getElem? (i := 309) (by decide +kernel)
theorem wq_0_5 : Cond.not (Cond.eq (gb_tm 0) (gb_tm 5)) ∈ gb_fl := List.mem_of_getElem? (i := 316) (by decide +kernel)
theorem wq_1_5 : Cond.not (Cond.eq (gb_tm 1) (gb_tm 5)) ∈ gb_fl := List.mem_of_getElem? (i := 317) (by decide +kernel)
theorem wq_11_5 : Cond.not (Cond.eq (gb_tm 11) (gb_tm 5)) ∈ gb_fl := List.mem_of_getElem? (i := 318) (by decide +kernel)
theorem wq_12_5 : Cond.not (Cond.eq (gb_tm 12) (gb_tm 5)) ∈ gb_fl := List.mem_of_getElem? (i := 319) (by decide +kernel)
theorem wq_10_5 : Cond.not (Cond.eq (gb_tm 10) (gb_tm 5)) ∈ gb_fl := List.mem_of_getElem? (i := 320) (by decide +kernel)
theorem wq_9_5 : Cond.not (Cond.eq (gb_tm 9) (gb_tm 5)) ∈ gb_fl := List.mem_of_getElem? (i := 321) (by decide +kernel)
theorem wq_2_5 : Cond.not (Cond.eq (gb_tm 2) (gb_tm 5)) ∈ gb_fl := List.mem_of_getElem? (i := 322) (by decide +kernel)
theorem wq_3_5 : Cond.not (Cond.eq (gb_tm 3) (gb_tm 5)) ∈ gb_fl := List.mem_of_getElem? (i := 323) (by decide +kernel)
theorem wq_4_5 : Cond.not (Cond.eq (gb_tm 4) (gb_tm 5)) ∈ gb_fl := List.mem_of_getElem? (i := 324) (by decide +kernel)
theorem wq_7_5 : Cond.not (Cond.eq (gb_tm 7) (gb_tm 5)) ∈ gb_fl := List.mem_of_getElem? (i := 325) (by decide +kernel)
theorem wq_8_5 : Cond.not (Cond.eq (gb_tm 8) (gb_tm 5)) ∈ gb_fl := List.mem_of_getElem? (i := 326) (by decide +kernel)
theorem wq_6_5 : Cond.not (Cond.eq (gb_tm 6) (gb_tm 5)) ∈ gb_fl := List.mem_of_getElem? (i := 327) (by decide +kernel)
theorem wn_ne : ∀ i, i < 13 → ∀ j, j < 13 → i ≠ j → Cond.not (Cond.eq (gb_tm i) (gb_tm j)) ∈ gb_fl ∨ Cond.not (Cond.eq (gb_tm j) (gb_tm i)) ∈ gb_fl := by
  intro i hi j hj hij
  match i, hi with
  | 0, _ =>
    match j, hj with
      | 0, _ => exact absurd rfl hij
      | 1, _ => exact Or.inl wq_0_1
      | 2, _ => exact Or.inl wq_0_2
      | 3, _ => exact Or.inl wq_0_3
      | 4, _ => exact Or.inl wq_0_4
      | 5, _ => exact Or.inl wq_0_5
      | 6, _ => exact Or.inl wq_0_6
      | 7, _ => exact Or.inl wq_0_7
      | 8, _ => exact Or.inl wq_0_8
      | 9, _ => exact Or.inl wq_0_9
      | 10, _ => exact Or.inl wq_0_10
      | 11, _ => exact Or.inl wq_0_11
      | 12, _ => exact Or.inl wq_0_12
  | 1, _ =>
    match j, hj with
      | 0, _ => exact Or.inr wq_0_1
      | 1, _ => exact absurd rfl hij
      | 2, _ => exact Or.inl wq_1_2
      | 3, _ => exact Or.inl wq_1_3
      | 4, _ => exact Or.inl wq_1_4
      | 5, _ => exact Or.inl wq_1_5
      | 6, _ => exact Or.inl wq_1_6
      | 7, _ => exact Or.inl wq_1_7
      | 8, _ => exact Or.inl wq_1_8
      | 9, _ => exact Or.inl wq_1_9
      | 10, _ => exact Or.inl wq_1_10
      | 11, _ => exact Or.inl wq_1_11
      | 12, _ => exact Or.inl wq_1_12
  | 2, _ =>
    match j, hj with
      | 0, _ => exact Or.inr wq_0_2
      | 1, _ => exact Or.inr wq_1_2
      | 2, _ => exact absurd rfl hij
      | 3, _ => exact Or.inl wq_2_3
      | 4, _ => exact Or.inl wq_2_4
      | 5, _ => exact Or.inl wq_2_5
      | 6, _ => exact Or.inl wq_2_6
      | 7, _ => exact Or.inl wq_2_7
      | 8, _ => exact Or.inl wq_2_8
      | 9, _ => exact Or.inr wq_9_2
      | 10, _ => exact Or.inr wq_10_2
      | 11, _ => exact Or.inr wq_11_2
      | 12, _ => exact Or.inr wq_12_2
  | 3, _ =>
    match j, hj with
      | 0, _ => exact Or.inr wq_0_3
      | 1, _ => exact Or.inr wq_1_3
      | 2, _ => exact Or.inr wq_2_3
      | 3, _ => exact absurd rfl hij
      | 4, _ => exact Or.inl wq_3_4
      | 5, _ => exact Or.inl wq_3_5
      | 6, _ => exact Or.inl wq_3_6
      | 7, _ => exact Or.inl wq_3_7
      | 8, _ => exact Or.inl wq_3_8
      | 9, _ => exact Or.inr wq_9_3
      | 10, _ => exact Or.inr wq_10_3
      | 11, _ => exact Or.inr wq_11_3
      | 12, _ => exact Or.inr wq_12_3
  | 4, _ =>
    match j, hj with
      | 0, _ => exact Or.inr wq_0_4
      | 1, _ => exact Or.inr wq_1_4
      | 2, _ => exact Or.inr wq_2_4
      | 3, _ => exact Or.inr wq_3_4
      | 4, _ => exact absurd rfl hij
      | 5, _ => exact Or.inl wq_4_5
      | 6, _ => exact Or.inl wq_4_6
      | 7, _ => exact Or.inl wq_4_7
      | 8, _ => exact Or.inl wq_4_8
      | 9, _ => exact Or.inr wq_9_4
      | 10, _ => exact Or.inr wq_10_4
      | 11, _ => exact Or.inr wq_11_4
      | 12, _ => exact Or.inr wq_12_4
  | 5, _ =>
    match j, hj with
      | 0, _ => exact Or.inr wq_0_5
      | 1, _ => exact Or.inr wq_1_5
      | 2, _ => exact Or.inr wq_2_5
      | 3, _ => exact Or.inr wq_3_5
      | 4, _ => exact Or.inr wq_4_5
      | 5, _ => exact absurd rfl hij
      | 6, _ => exact Or.inr wq_6_5
      | 7, _ => exact Or.inr wq_7_5
      | 8, _ => exact Or.inr wq_8_5
      | 9, _ => exact Or.inr wq_9_5
      | 10, _ => exact Or.inr wq_10_5
      | 11, _ => exact Or.inr wq_11_5
      | 12, _ => exact Or.inr wq_12_5
  | 6, _ =>
    match j, hj with
      | 0, _ => exact Or.inr wq_0_6
      | 1, _ => exact Or.inr wq_1_6
      | 2, _ => exact Or.inr wq_2_6
      | 3, _ => exact Or.inr wq_3_6
      | 4, _ => exact Or.inr wq_4_6
      | 5, _ => exact Or.inl wq_6_5
      | 6, _ => exact absurd rfl hij
      | 7, _ => exact Or.inr wq_7_6
      | 8, _ => exact Or.inr wq_8_6
      | 9, _ => exact Or.inr wq_9_6
      | 10, _ => exact Or.inr wq_10_6
      | 11, _ => exact Or.inr wq_11_6
      | 12, _ => exact Or.inr wq_12_6
  | 7, _ =>
    match j, hj with
      | 0, _ => exact Or.inr wq_0_7
      | 1, _ => exact Or.inr wq_1_7
      | 2, _ => exact Or.inr wq_2_7
      | 3, _ => exact Or.inr wq_3_7
      | 4, _ => exact Or.inr wq_4_7
      | 5, _ => exact Or.inl wq_7_5
      | 6, _ => exact Or.inl wq_7_6
      | 7, _ => exact absurd rfl hij
      | 8, _ => exact Or.inl wq_7_8
      | 9, _ => exact Or.inr wq_9_7
      | 10, _ => exact Or.inr wq_10_7
      | 11, _ => exact Or.inr wq_11_7
      | 12, _ => exact Or.inr wq_12_7
  | 8, _ =>
    match j, hj with
      | 0, _ => exact Or.inr wq_0_8
      | 1, _ => exact Or.inr wq_1_8
      | 2, _ => exact Or.inr wq_2_8
      | 3, _ => exact Or.inr wq_3_8
      | 4, _ => exact Or.inr wq_4_8
      | 5, _ => exact Or.inl wq_8_5
      | 6, _ => exact Or.inl wq_8_6
      | 7, _ => exact Or.inr wq_7_8
      | 8, _ => exact absurd rfl hij
      | 9, _ => exact Or.inr wq_9_8
      | 10, _ => exact Or.inr wq_10_8
      | 11, _ => exact Or.inr wq_11_8
      | 12, _ => exact Or.inr wq_12_8
  | 9, _ =>
    match j, hj with
      | 0, _ => exact Or.inr wq_0_9
      | 1, _ => exact Or.inr wq_1_9
      | 2, _ => exact Or.inl wq_9_2
      | 3, _ => exact Or.inl wq_9_3
      | 4, _ => exact Or.inl wq_9_4
      | 5, _ => exact Or.inl wq_9_5
      | 6, _ => exact Or.inl wq_9_6
      | 7, _ => exact Or.inl wq_9_7
      | 8, _ => exact Or.inl wq_9_8
      | 9, _ => exact absurd rfl hij
      | 10, _ => exact Or.inr wq_10_9
      | 11, _ => exact Or.inr wq_11_9
      | 12, _ => exact Or.inr wq_12_9
  | 10, _ =>
    match j, hj with
      | 0, _ => exact Or.inr wq_0_10
      | 1, _ => exact Or.inr wq_1_10
      | 2, _ => exact Or.inl wq_10_2
      | 3, _ => exact Or.inl wq_10_3
      | 4, _ => exact Or.inl wq_10_4
      | 5, _ => exact Or.inl wq_10_5
      | 6, _ => exact Or.inl wq_10_6
      | 7, _ => exact Or.inl wq_10_7
      | 8, _ => exact Or.inl wq_10_8
      | 9, _ => exact Or.inl wq_10_9
      | 10, _ => exact absurd rfl hij
      | 11, _ => exact Or.inr wq_11_10
      | 12, _ => exact Or.inr wq_12_10
  | 11, _ =>
    match j, hj with
      | 0, _ => exact Or.inr wq_0_11
      | 1, _ => exact Or.inr wq_1_11
      | 2, _ => exact Or.inl wq_11_2
      | 3, _ => exact Or.inl wq_11_3
      | 4, _ => exact Or.inl wq_11_4
      | 5, _ => exact Or.inl wq_11_5
      | 6, _ => exact Or.inl wq_11_6
      | 7, _ => exact Or.inl wq_11_7
      | 8, _ => exact Or.inl wq_11_8
      | 9, _ => exact Or.inl wq_11_9
      | 10, _ => exact Or.inl wq_11_10
      | 11, _ => exact absurd rfl hij
      | 12, _ => exact Or.inl wq_11_12
  | 12, _ =>
    match j, hj with
      | 0, _ => exact Or.inr wq_0_12
      | 1, _ => exact Or.inr wq_1_12
      | 2, _ => exact Or.inl wq_12_2
      | 3, _ => exact Or.inl wq_12_3
      | 4, _ => exact Or.inl wq_12_4
      | 5, _ => exact Or.inl wq_12_5
      | 6, _ => exact Or.inl wq_12_6
      | 7, _ => exact Or.inl wq_12_7
      | 8, _ => exact Or.inl wq_12_8
      | 9, _ => exact Or.inl wq_12_9
      | 10, _ => exact Or.inl wq_12_10
      | 11, _ => exact Or.inr wq_11_12
      | 12, _ => exact absurd rfl hij
theorem wn_len : ∀ i, i < 13 → gb_sl.getD i 0 < 2 ^ 31 := by decide +kernel
theorem wn_top : ∀ j, j < 3 → Cond.eq (.elem (.static "GladBasket" "TOP_TERM" "[I") (.int (Int32.ofNat j))) (.int (gb_top j)) ∈ gb_fl := by decide +kernel
set_option maxHeartbeats 4000000 in
/-- what is only read, out of the law's premises -/
theorem gb_ro_of {s : State} {b : Nat} (hts : ∀ w ∈ lw_tbl, w.before #[Value.ref b] s = true) (hgv : (Jvm.Cond.and given_1 narrow_1).before #[Value.ref b] s = true) (l : Launch) (D : va_G) (dA : Nat → ClassId) : ∃ ro : Nat → Nat, ro 0 = b ∧ gb_RO (l, D, dA, s, ro) := by
  have hs := flat_of_before _ hgv
  have hA : ∀ a : Nat, a < s.heap.size → ¬ (fun q : Nat => s.heap.size ≤ q) a := fun a h => Nat.not_le.mpr h
  obtain ⟨adK, adV, hV, hK⟩ := vk_Sof (args := #[Value.ref b]) (s := s) (N := 13) (tm := gb_tm) (len := gb_sl) (byt := gb_sb) (A := fun q : Nat => s.heap.size ≤ q) wn_len (fun i hi => hs _ (wn_ex i hi)) (fun i hi => hs _ (wn_co i hi)) (fun i hi => hs _ (wn_ar i hi)) (fun i hi => hs _ (wn_le i hi)) (fun i hi j hj => hs _ (wn_el i hi j hj)) (fun i j hi hj hij => (wn_ne i hi j hj hij).imp (hs _) (hs _)) hA
  obtain ⟨tt, ht, hT⟩ := va_Tof (args := #[Value.ref b]) (s := s) (tm := .static "GladBasket" "TOP_TERM" "[I") (ty := .int) (N := 3) (f := fun j => .int (gb_top j)) (A := fun q : Nat => s.heap.size ≤ q) (by decide) (hs _ (by decide +kernel)) (va_eqt (hs _ (by decide +kernel))) (fun j hj => va_eqt (hs _ (wn_top j hj))) hA
  have hZ1 : va_Z "GladBasket" "TOP_TERM" "[I" (.ref tt) (fun q : Nat => s.heap.size ≤ q) s s.heap := va_Zof (hts _ wl_top) (hts _ wn_X10) ht hA
  have hZ2 : va_Z "java/lang/String" "COMPACT_STRINGS" "Z" (.int 1) (fun q : Nat => s.heap.size ≤ q) s s.heap := va_Zof (hts _ wl_cs) (hts _ wn_J0) (va_eqi (hs _ (by decide +kernel))) hA
  have hZ3 := va_Zqof (A := fun q : Nat => s.heap.size ≤ q) (hts _ wl_sf) (hts _ wn_J3) (hs _ (by decide +kernel)) hA
  obtain ⟨t4, hZ3⟩ : ∃ t4 : Nat, va_Z "jdk/internal/util/Preconditions" "SIOOBE_FORMATTER" "Ljava/util/function/BiFunction;" .null (fun q : Nat => s.heap.size ≤ q) s s.heap ∨ va_Z "jdk/internal/util/Preconditions" "SIOOBE_FORMATTER" "Ljava/util/function/BiFunction;" (.ref t4) (fun q : Nat => s.heap.size ≤ q) s s.heap := by
    rcases hZ3 with h | ⟨t, h⟩
    · exact ⟨0, Or.inl h⟩
    · exact ⟨t, Or.inr h⟩
  let ro : Nat → Nat := fun j => if j = 0 then b else if j = 1 then tt else if j = 40 then t4 else if j < 20 then adK (j - 2) else adV (j - 20)
  have r2 : ∀ i, i < 13 → ro (2 + i) = adK i := fun i hi => by
    show (if 2 + i = 0 then b else if 2 + i = 1 then tt else if 2 + i = 40 then t4 else if 2 + i < 20 then adK (2 + i - 2) else adV (2 + i - 20)) = adK i
    rw [if_neg (by omega), if_neg (by omega), if_neg (by omega), if_pos (by omega), show 2 + i - 2 = i by omega]
  have r20 : ∀ i, i < 13 → ro (20 + i) = adV i := fun i hi => by
    show (if 20 + i = 0 then b else if 20 + i = 1 then tt else if 20 + i = 40 then t4 else if 20 + i < 20 then adK (20 + i - 2) else adV (20 + i - 20)) = adV i
    rw [if_neg (by omega), if_neg (by omega), if_neg (by omega), if_neg (by omega), show 20 + i - 20 = i by omega]
  refine ⟨ro, rfl, hZ1, hT, hZ2, hZ3, fun i q hq => ?_, ⟨fun i hi => ?_, fun i j hi hj e => ?_⟩⟩
  · have hi : i < 13 := (List.getElem?_eq_some_iff.mp hq).1
    show vk_R q.1 q.2.1 q.2.2 (ro (2 + i)) s
    rw [r2 i hi]
    have hk := hK i hi
    match i, hi, hq, hk with

    | 0, _, hq, hk => cases hq; exact vk_R.same (u := s) rfl ⟨va_tabs0 (hts _ wl_s0), va_str0 hk⟩
    | 1, _, hq, hk => cases hq; exact vk_R.same (u := s) rfl ⟨va_tabs0 (hts _ wl_s1), va_str0 hk⟩
    | 2, _, hq, hk => cases hq; exact vk_R.same (u := s) rfl ⟨va_tabs0 (hts _ wl_s2), va_str0 hk⟩
    | 3, _, hq, hk => cases hq; exact vk_R.same (u := s) rfl ⟨va_tabs0 (hts _ wl_s3), va_str0 hk⟩
    | 4, _, hq, hk => cases hq; exact vk_R.same (u := s) rfl ⟨va_tabs0 (hts _ wl_s4), va_str0 hk⟩
    | 5, _, hq, hk => cases hq; exact vk_R.same (u := s) rfl ⟨va_tabs0 (hts _ wl_s5), va_str0 hk⟩
    | 6, _, hq, hk => cases hq; exact vk_R.same (u := s) rfl ⟨va_tabs0 (hts _ wl_s6), va_str0 hk⟩
    | 7, _, hq, hk => cases hq; exact vk_R.same (u := s) rfl ⟨va_tabs0 (hts _ wl_s7), va_str0 hk⟩
    | 8, _, hq, hk => cases hq; exact vk_R.same (u := s) rfl ⟨va_tabs0 (hts _ wl_s8), va_str0 hk⟩
    | 9, _, hq, hk => cases hq; exact vk_R.same (u := s) rfl ⟨va_tabs0 (hts _ wl_s9), va_str0 hk⟩
    | 10, _, hq, hk => cases hq; exact vk_R.same (u := s) rfl ⟨va_tabs0 (hts _ wl_s10), va_str0 hk⟩
    | 11, _, hq, hk => cases hq; exact vk_R.same (u := s) rfl ⟨va_tabs0 (hts _ wl_s11), va_str0 hk⟩
    | 12, _, hq, hk => cases hq; exact vk_R.same (u := s) rfl ⟨va_tabs0 (hts _ wl_s12), va_str0 hk⟩
  · show va_O "java/lang/String" (ro (2 + i)) _ s s.heap ∧ va_OF "java/lang/String" "coder" "B" (.int 0) (ro (2 + i)) _ s s.heap ∧ va_OF "java/lang/String" "value" "[B" (.ref (ro (20 + i))) (ro (2 + i)) _ s s.heap ∧ va_T .byte (ro (20 + i)) _ _ _ s s.heap
    rw [r2 i hi, r20 i hi]
    exact hV.1 i hi
  · have e : ro (2 + i) = ro (2 + j) := e
    rw [r2 i hi, r2 j hj] at e
    exact hV.2 i j hi hj e
