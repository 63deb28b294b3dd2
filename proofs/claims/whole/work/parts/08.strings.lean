/-! String constants: ldc, length, charAt -/
theorem dJ0_length_8abf5_0 : decode cJ0_length_8abf5 0 = .ok (.aload_n 0, 1) := by decide +kernel
theorem dJ0_length_8abf5_1 : decode cJ0_length_8abf5 1 = .ok (.getfield 9, 3) := by decide +kernel
theorem dJ0_length_8abf5_4 : decode cJ0_length_8abf5 4 = .ok (.arraylength, 1) := by decide +kernel
theorem dJ0_length_8abf5_5 : decode cJ0_length_8abf5 5 = .ok (.aload_n 0, 1) := by decide +kernel
theorem dJ0_length_8abf5_6 : decode cJ0_length_8abf5 6 = .ok (.invokevirtual 335, 3) := by decide +kernel
theorem dJ0_length_8abf5_9 : decode cJ0_length_8abf5 9 = .ok (.ishr, 1) := by decide +kernel
theorem dJ0_length_8abf5_10 : decode cJ0_length_8abf5 10 = .ok (.ireturn, 1) := by decide +kernel
theorem dJ0_charAt_5068e_0 : decode cJ0_charAt_5068e 0 = .ok (.aload_n 0, 1) := by decide +kernel
theorem dJ0_charAt_5068e_1 : decode cJ0_charAt_5068e 1 = .ok (.invokevirtual 492, 3) := by decide +kernel
theorem dJ0_charAt_5068e_4 : decode cJ0_charAt_5068e 4 = .ok (.ifCond .eq 12, 3) := by decide +kernel
theorem dJ0_charAt_5068e_7 : decode cJ0_charAt_5068e 7 = .ok (.aload_n 0, 1) := by decide +kernel
theorem dJ0_charAt_5068e_8 : decode cJ0_charAt_5068e 8 = .ok (.getfield 9, 3) := by decide +kernel
theorem dJ0_charAt_5068e_11 : decode cJ0_charAt_5068e 11 = .ok (.iload_n 1, 1) := by decide +kernel
theorem dJ0_charAt_5068e_12 : decode cJ0_charAt_5068e 12 = .ok (.invokestatic 495, 3) := by decide +kernel
theorem dJ0_charAt_5068e_15 : decode cJ0_charAt_5068e 15 = .ok (.ireturn, 1) := by decide +kernel
theorem dJ0_charAt_5068e_16 : decode cJ0_charAt_5068e 16 = .ok (.aload_n 0, 1) := by decide +kernel
theorem dJ0_charAt_5068e_17 : decode cJ0_charAt_5068e 17 = .ok (.getfield 9, 3) := by decide +kernel
theorem dJ0_charAt_5068e_20 : decode cJ0_charAt_5068e 20 = .ok (.iload_n 1, 1) := by decide +kernel
theorem dJ0_charAt_5068e_21 : decode cJ0_charAt_5068e 21 = .ok (.invokestatic 498, 3) := by decide +kernel
theorem dJ0_charAt_5068e_24 : decode cJ0_charAt_5068e 24 = .ok (.ireturn, 1) := by decide +kernel
theorem dJ0_coder_7d493_0 : decode cJ0_coder_7d493 0 = .ok (.getstatic 38, 3) := by decide +kernel
theorem dJ0_coder_7d493_3 : decode cJ0_coder_7d493 3 = .ok (.ifCond .eq 10, 3) := by decide +kernel
theorem dJ0_coder_7d493_6 : decode cJ0_coder_7d493 6 = .ok (.aload_n 0, 1) := by decide +kernel
theorem dJ0_coder_7d493_7 : decode cJ0_coder_7d493 7 = .ok (.getfield 15, 3) := by decide +kernel
theorem dJ0_coder_7d493_10 : decode cJ0_coder_7d493 10 = .ok (.goto 4, 3) := by decide +kernel
theorem dJ0_coder_7d493_13 : decode cJ0_coder_7d493 13 = .ok (.iconst 1, 1) := by decide +kernel
theorem dJ0_coder_7d493_14 : decode cJ0_coder_7d493 14 = .ok (.ireturn, 1) := by decide +kernel
theorem dJ0_isLatin1_aae02_0 : decode cJ0_isLatin1_aae02 0 = .ok (.getstatic 38, 3) := by decide +kernel
theorem dJ0_isLatin1_aae02_3 : decode cJ0_isLatin1_aae02 3 = .ok (.ifCond .eq 14, 3) := by decide +kernel
theorem dJ0_isLatin1_aae02_6 : decode cJ0_isLatin1_aae02 6 = .ok (.aload_n 0, 1) := by decide +kernel
theorem dJ0_isLatin1_aae02_7 : decode cJ0_isLatin1_aae02 7 = .ok (.getfield 15, 3) := by decide +kernel
theorem dJ0_isLatin1_aae02_10 : decode cJ0_isLatin1_aae02 10 = .ok (.ifCond .ne 7, 3) := by decide +kernel
theorem dJ0_isLatin1_aae02_13 : decode cJ0_isLatin1_aae02 13 = .ok (.iconst 1, 1) := by decide +kernel
theorem dJ0_isLatin1_aae02_14 : decode cJ0_isLatin1_aae02 14 = .ok (.goto 4, 3) := by decide +kernel
theorem dJ0_isLatin1_aae02_17 : decode cJ0_isLatin1_aae02 17 = .ok (.iconst 0, 1) := by decide +kernel
theorem dJ0_isLatin1_aae02_18 : decode cJ0_isLatin1_aae02 18 = .ok (.ireturn, 1) := by decide +kernel
theorem dJ0_checkIndex_df160_0 : decode cJ0_checkIndex_df160 0 = .ok (.iload_n 0, 1) := by decide +kernel
theorem dJ0_checkIndex_df160_1 : decode cJ0_checkIndex_df160 1 = .ok (.iload_n 1, 1) := by decide +kernel
theorem dJ0_checkIndex_df160_2 : decode cJ0_checkIndex_df160 2 = .ok (.getstatic 1053, 3) := by decide +kernel
theorem dJ0_checkIndex_df160_5 : decode cJ0_checkIndex_df160 5 = .ok (.invokestatic 1059, 3) := by decide +kernel
theorem dJ0_checkIndex_df160_8 : decode cJ0_checkIndex_df160 8 = .ok (.pop, 1) := by decide +kernel
theorem dJ0_checkIndex_df160_9 : decode cJ0_checkIndex_df160 9 = .ok (.return_, 1) := by decide +kernel
theorem dJ1_charAt_3b067_0 : decode cJ1_charAt_3b067 0 = .ok (.iload_n 1, 1) := by decide +kernel
theorem dJ1_charAt_3b067_1 : decode cJ1_charAt_3b067 1 = .ok (.aload_n 0, 1) := by decide +kernel
theorem dJ1_charAt_3b067_2 : decode cJ1_charAt_3b067 2 = .ok (.arraylength, 1) := by decide +kernel
theorem dJ1_charAt_3b067_3 : decode cJ1_charAt_3b067 3 = .ok (.invokestatic 9, 3) := by decide +kernel
theorem dJ1_charAt_3b067_6 : decode cJ1_charAt_3b067 6 = .ok (.aload_n 0, 1) := by decide +kernel
theorem dJ1_charAt_3b067_7 : decode cJ1_charAt_3b067 7 = .ok (.iload_n 1, 1) := by decide +kernel
theorem dJ1_charAt_3b067_8 : decode cJ1_charAt_3b067 8 = .ok (.baload, 1) := by decide +kernel
theorem dJ1_charAt_3b067_9 : decode cJ1_charAt_3b067 9 = .ok (.sipush 255, 3) := by decide +kernel
theorem dJ1_charAt_3b067_12 : decode cJ1_charAt_3b067 12 = .ok (.iand, 1) := by decide +kernel
theorem dJ1_charAt_3b067_13 : decode cJ1_charAt_3b067 13 = .ok (.i2c, 1) := by decide +kernel
theorem dJ1_charAt_3b067_14 : decode cJ1_charAt_3b067 14 = .ok (.ireturn, 1) := by decide +kernel
theorem dJ3_checkIndex_8e157_0 : decode cJ3_checkIndex_8e157 0 = .ok (.iload_n 0, 1) := by decide +kernel
theorem dJ3_checkIndex_8e157_1 : decode cJ3_checkIndex_8e157 1 = .ok (.ifCond .lt 8, 3) := by decide +kernel
theorem dJ3_checkIndex_8e157_4 : decode cJ3_checkIndex_8e157 4 = .ok (.iload_n 0, 1) := by decide +kernel
theorem dJ3_checkIndex_8e157_5 : decode cJ3_checkIndex_8e157 5 = .ok (.iload_n 1, 1) := by decide +kernel
theorem dJ3_checkIndex_8e157_6 : decode cJ3_checkIndex_8e157 6 = .ok (.if_icmp .lt 10, 3) := by decide +kernel
theorem dJ3_checkIndex_8e157_9 : decode cJ3_checkIndex_8e157 9 = .ok (.aload_n 2, 1) := by decide +kernel
theorem dJ3_checkIndex_8e157_10 : decode cJ3_checkIndex_8e157 10 = .ok (.iload_n 0, 1) := by decide +kernel
theorem dJ3_checkIndex_8e157_11 : decode cJ3_checkIndex_8e157 11 = .ok (.iload_n 1, 1) := by decide +kernel
theorem dJ3_checkIndex_8e157_12 : decode cJ3_checkIndex_8e157 12 = .ok (.invokestatic 95, 3) := by decide +kernel
theorem dJ3_checkIndex_8e157_15 : decode cJ3_checkIndex_8e157 15 = .ok (.athrow, 1) := by decide +kernel
theorem dJ3_checkIndex_8e157_16 : decode cJ3_checkIndex_8e157 16 = .ok (.iload_n 0, 1) := by decide +kernel
theorem dJ3_checkIndex_8e157_17 : decode cJ3_checkIndex_8e157 17 = .ok (.ireturn, 1) := by decide +kernel
theorem zw_lds {E : ZEnv} {cc : ByteArray} {own : String} {d pc : Nat} {lv : List (Nat × Value)} {st : List Value} {M : ZMem} (hC : ZCx E cc own d) {index i : Nat} {tx : String} (hd : decode cc pc = .ok (.ldc index, 2)) (hm : (own, index, tx, i) ∈ zLdc) (kk : ZW E (pc + 2) lv (.ref (zad E (1000 + i)) :: st) M) : ZW E pc lv st M := by
  obtain ⟨p, l, e, R, s, m, args, below, meth, c, cells, slots, Q, D, ad, cA, nL⟩ := E
  obtain ⟨hx, hb, hml, hown, hts, hK, hinj, hX, hc1, hc2, hR1, hR2⟩ := hC
  intro H locs ls hP hS hl
  exact va_ldcS hx hb hown (hX.2.2.1 _ hm) hd (kk H locs ls hP hS hl)
theorem zw_ldsw {E : ZEnv} {cc : ByteArray} {own : String} {d pc : Nat} {lv : List (Nat × Value)} {st : List Value} {M : ZMem} (hC : ZCx E cc own d) {index i : Nat} {tx : String} (hd : decode cc pc = .ok (.ldc_w index, 3)) (hm : (own, index, tx, i) ∈ zLdc) (kk : ZW E (pc + 3) lv (.ref (zad E (1000 + i)) :: st) M) : ZW E pc lv st M := by
  obtain ⟨p, l, e, R, s, m, args, below, meth, c, cells, slots, Q, D, ad, cA, nL⟩ := E
  obtain ⟨hx, hb, hml, hown, hts, hK, hinj, hX, hc1, hc2, hR1, hR2⟩ := hC
  intro H locs ls hP hS hl
  have hZ := hX.2.2.1 _ hm
  intro T hT X
  obtain ⟨t, a1, b1⟩ := kk H locs ls hP hS hl T hT X
  exact ⟨t, X.ldcStringW hx hown (text := tx) (a := ad (1000 + i)) hZ.1 hZ.2 (g := F0 m pc ls st) rfl (by rw [hb]; exact hd) t a1, b1⟩
theorem zw_sval {E : ZEnv} {cc : ByteArray} {own : String} {d pc : Nat} {lv : List (Nat × Value)} {st : List Value} {M : ZMem} (hC : ZCx E cc own d) {i index : Nat} (hi : i < zNs) (hd : decode cc pc = .ok (.getfield index, 3)) (hlink : Cond.fieldLink own index "java/lang/String" "value" "[B" ∈ zTw) (kk : ZW E (pc + 3) lv (.ref (zad E (2000 + i)) :: st) M) : ZW E pc lv (.ref (zad E (1000 + i)) :: st) M := by
  obtain ⟨p, l, e, R, s, m, args, below, meth, c, cells, slots, Q, D, ad, cA, nL⟩ := E
  obtain ⟨hx, hb, hml, hown, hts, hK, hinj, hX, hc1, hc2, hR1, hR2⟩ := hC
  intro H locs ls hP hS hl
  exact vk_getf hx hb (hX.2.1.1 i hi).2.2.1 hS hown (hts _ hlink) (fun _ h => h) hd (kk H locs ls hP hS hl)
theorem zw_scod {E : ZEnv} {cc : ByteArray} {own : String} {d pc : Nat} {lv : List (Nat × Value)} {st : List Value} {M : ZMem} (hC : ZCx E cc own d) {i index : Nat} (hi : i < zNs) (hd : decode cc pc = .ok (.getfield index, 3)) (hlink : Cond.fieldLink own index "java/lang/String" "coder" "B" ∈ zTw) (kk : ZW E (pc + 3) lv (.int 0 :: st) M) : ZW E pc lv (.ref (zad E (1000 + i)) :: st) M := by
  obtain ⟨p, l, e, R, s, m, args, below, meth, c, cells, slots, Q, D, ad, cA, nL⟩ := E
  obtain ⟨hx, hb, hml, hown, hts, hK, hinj, hX, hc1, hc2, hR1, hR2⟩ := hC
  intro H locs ls hP hS hl
  exact vk_getf hx hb (hX.2.1.1 i hi).2.1 hS hown (hts _ hlink) (fun _ h => h) hd (kk H locs ls hP hS hl)
theorem zw_scmp {E : ZEnv} {cc : ByteArray} {own : String} {d pc : Nat} {lv : List (Nat × Value)} {st : List Value} {M : ZMem} (hC : ZCx E cc own d) {index : Nat} (hd : decode cc pc = .ok (.getstatic index, 3)) (hlink : Cond.fieldLink own index "java/lang/String" "COMPACT_STRINGS" "Z" ∈ zTw) (kk : ZW E (pc + 3) lv (.int 1 :: st) M) : ZW E pc lv st M := by
  obtain ⟨p, l, e, R, s, m, args, below, meth, c, cells, slots, Q, D, ad, cA, nL⟩ := E
  obtain ⟨hx, hb, hml, hown, hts, hK, hinj, hX, hc1, hc2, hR1, hR2⟩ := hC
  intro H locs ls hP hS hl
  exact va_gets hx hb hX.2.2.2.1 hS hown (hts _ hlink) (fun _ h => h) hd (kk H locs ls hP hS hl)
theorem zw_sfmt {E : ZEnv} {cc : ByteArray} {own : String} {d pc : Nat} {lv : List (Nat × Value)} {st : List Value} {M : ZMem} (hC : ZCx E cc own d) {index : Nat} (hd : decode cc pc = .ok (.getstatic index, 3)) (hlink : Cond.fieldLink own index "jdk/internal/util/Preconditions" "SIOOBE_FORMATTER" "Ljava/util/function/BiFunction;" ∈ zTw) (kk : ∀ v, (v = .null ∨ ∃ t, v = .ref t) → ZW E (pc + 3) lv (v :: st) M) : ZW E pc lv st M := by
  obtain ⟨p, l, e, R, s, m, args, below, meth, c, cells, slots, Q, D, ad, cA, nL⟩ := E
  obtain ⟨hx, hb, hml, hown, hts, hK, hinj, hX, hc1, hc2, hR1, hR2⟩ := hC
  intro H locs ls hP hS hl
  rcases hX.2.2.2.2 with h | ⟨t, h⟩
  · exact va_gets hx hb h hS hown (hts _ hlink) (fun _ h => h) hd (kk _ (Or.inl rfl) H locs ls hP hS hl)
  · exact va_gets hx hb h hS hown (hts _ hlink) (fun _ h => h) hd (kk _ (Or.inr ⟨t, rfl⟩) H locs ls hP hS hl)
theorem zw_slenB {E : ZEnv} {cc : ByteArray} {own : String} {d pc : Nat} {lv : List (Nat × Value)} {st : List Value} {M : ZMem} (hC : ZCx E cc own d) {i : Nat} (hi : i < zNs) (hd : decode cc pc = .ok (.arraylength, 1)) (kk : ZW E (pc + 1) lv (.int (nI (zLen.getD i 0)) :: st) M) : ZW E pc lv (.ref (zad E (2000 + i)) :: st) M := by
  obtain ⟨p, l, e, R, s, m, args, below, meth, c, cells, slots, Q, D, ad, cA, nL⟩ := E
  obtain ⟨hx, hb, hml, hown, hts, hK, hinj, hX, hc1, hc2, hR1, hR2⟩ := hC
  intro H locs ls hP hS hl
  exact va_tlen hx hb (hX.2.1.1 i hi).2.2.2 hS rfl hd (kk H locs ls hP hS hl)
theorem zw_sbyte {E : ZEnv} {cc : ByteArray} {own : String} {d pc : Nat} {lv : List (Nat × Value)} {st : List Value} {M : ZMem} (hC : ZCx E cc own d) {i : Nat} {j : Int32} (hi : i < zNs) (hj : vp_in j (zLen.getD i 0)) (hd : decode cc pc = .ok (.baload, 1)) (kk : ZW E (pc + 1) lv (.int ((zByt.getD i []).getD j.toNatClampNeg 0) :: st) M) : ZW E pc lv (.int j :: .ref (zad E (2000 + i)) :: st) M := by
  obtain ⟨p, l, e, R, s, m, args, below, meth, c, cells, slots, Q, D, ad, cA, nL⟩ := E
  obtain ⟨hx, hb, hml, hown, hts, hK, hinj, hX, hc1, hc2, hR1, hR2⟩ := hC
  intro H locs ls hP hS hl
  exact va_tb hx hb (hX.2.1.1 i hi).2.2.2 hS hj rfl hd (kk H locs ls hP hS hl)
theorem zw_i2c {E : ZEnv} {cc : ByteArray} {own : String} {d pc : Nat} {lv : List (Nat × Value)} {st : List Value} {M : ZMem} (hC : ZCx E cc own d) {x : Int32} (hd : decode cc pc = .ok (.i2c, 1)) (kk : ZW E (pc + 1) lv (.int ((x.toUInt32 % 65536).toInt32) :: st) M) : ZW E pc lv (.int x :: st) M := by
  obtain ⟨p, l, e, R, s, m, args, below, meth, c, cells, slots, Q, D, ad, cA, nL⟩ := E
  obtain ⟨hx, hb, hml, hown, hts, hK, hinj, hX, hc1, hc2, hR1, hR2⟩ := hC
  intro H locs ls hP hS hl
  exact lv_i2c hx hb hd rfl (kk H locs ls hP hS hl)
theorem zw_cT {E : ZEnv} {cc : ByteArray} {own : String} {d pc : Nat} {lv : List (Nat × Value)} {M M' : ZMem} (hC : ZCx E cc own d) {y : MethodName} {cy : ByteArray} {mL n index d' i : Nat} {rt : Option FieldType} {r : Option Value} (As rest : List Value) {st0 st1 : List Value}
    (hi : i < zNs) (hm : ZMv "java/lang/String" y cy mL rt n) (hct : ZCt (zL E) (zD E) (zad E) (zcA E) y cy mL rt d' (.ref (zad E (1000 + i)) :: As) M r M') (hlink : Cond.methodLink own index y ∈ zTw) (hd : decode cc pc = .ok (.invokevirtual index, 3)) (hAs : As.length = n) (hdd : d' + 1 ≤ d) (hrest : (rest.map fun v => v.category).sum ≤ 8) (hst : st0 = As.reverse ++ .ref (zad E (1000 + i)) :: rest) (hs1 : r.toList ++ rest = st1) (kk : ZW E (pc + 3) lv st1 M') : ZW E pc lv st0 M := by
  subst hst; subst hs1
  obtain ⟨p, l, e, R, s, m, args, below, meth, c, cells, slots, Q, D, ad, cA, nL⟩ := E
  obtain ⟨hx, hb, hml, hown, hts, hK, hinj, hX, hc1, hc2, hR1, hR2⟩ := hC
  obtain ⟨m1, m2, m3, m4, m5, m6⟩ := hm
  intro H locs ls hP hS hl
  have hrecv := vk_recv hX.2.1 hi hS
  refine zw_after (va_runV (As := As) (rest := rest) ⟨hx, hb, hml, hown, hts⟩ (hct hinj) (cwV n hts (show GoodIn zTw (wsV own index "java/lang/String" y _) from zgoodL (fun w hw => ?_) (zgood m1)) rfl rfl rfl m5 ⟨?_, ?_⟩) ⟨zblind, hrecv, zpre hP hK hX hS⟩ rfl hAs hl.1 rfl (lv_room hrest) hd ⟨hc1, hc2⟩) hS (fun H1 locs1 hP1 hS1 => kk H1 locs1 ls hP1 hS1 hl)
  · simp only [List.mem_cons, List.not_mem_nil, or_false] at hw
    rcases hw with rfl | rfl | rfl | rfl
    · exact hlink
    · exact m2
    · exact m3
    · exact m4
  · show d' + 1 ≤ R.frames
    omega
  · show 8 + (mL + 11) + 64 * d' ≤ R.locals
    omega
theorem zm_J0_length_8abf5 : ZMv "java/lang/String" yJ0_length_8abf5 cJ0_length_8abf5 1 (some .int) 0 := ⟨kw_3_29, kw_3_27, kw_3_28, kw_1_12, by decide +kernel, by decide⟩
theorem zm_J0_coder_7d493 : ZMv "java/lang/String" yJ0_coder_7d493 cJ0_coder_7d493 1 (some .byte) 0 := ⟨kw_3_33, kw_3_31, kw_3_32, kw_1_12, by decide +kernel, by decide⟩
theorem zm_J0_charAt_5068e : ZMv "java/lang/String" yJ0_charAt_5068e cJ0_charAt_5068e 2 (some .char) 1 := ⟨kw_3_39, kw_3_37, kw_3_38, kw_1_12, by decide +kernel, by decide⟩
theorem zm_J0_isLatin1_aae02 : ZMv "java/lang/String" yJ0_isLatin1_aae02 cJ0_isLatin1_aae02 1 (some .boolean) 0 := ⟨kw_3_43, kw_3_41, kw_3_42, kw_1_12, by decide +kernel, by decide⟩
theorem zm_J1_charAt_3b067 : ZMs yJ1_charAt_3b067 cJ1_charAt_3b067 2 (some .char) 2 := ⟨kw_3_46, kw_3_45, kw_1_13, by decide +kernel, by decide⟩
theorem zm_J0_checkIndex_df160 : ZMs yJ0_checkIndex_df160 cJ0_checkIndex_df160 2 none 2 := ⟨kw_3_49, kw_3_48, kw_1_12, by decide +kernel, by decide⟩
theorem zm_J3_checkIndex_8e157 : ZMs yJ3_checkIndex_8e157 cJ3_checkIndex_8e157 3 (some .int) 3 := ⟨kw_3_54, kw_3_53, kw_1_14, by decide +kernel, by decide⟩
theorem zlen_ok : ∀ i, i < zNs → zLen.getD i 0 ≤ 8 := by decide +kernel
theorem zbyt_ok : ∀ i, i < zNs → ∀ j, j < 8 → (zByt.getD i []).getD j 0 &&& 255 = (zByt.getD i []).getD j 0 := by decide +kernel
set_option maxRecDepth 100000 in
theorem zc_chk {l : Launch} {D : va_G} {ad : Nat → Nat} {cA : Nat → ClassId} {M : ZMem} {i n : Int32} {v : Value} (hv : v = .null ∨ ∃ t, v = .ref t) (h1 : ¬ i < 0) (h2 : i < n) : ZCt l D ad cA yJ3_checkIndex_8e157 cJ3_checkIndex_8e157 3 (some .int) 1 [.int i, .int n, v] M (some (.int i)) M := by
  have key : ∀ E : ZEnv, zL E = l → zD E = D → zad E = ad → zcA E = cA → E.2.2.2.2.2.2.2.2.2.2.2.2.2.2.2.2 = 3 → ZCx E cJ3_checkIndex_8e157 yJ3_checkIndex_8e157.cls 1 → ZRet E (some .int) (some (.int i)) M → ZW E 0 [(0, .int i), (1, .int n), (2, v)] [] M := by
    intro E hl hD had hcA hN hC hR
    refine zw_iload_n hC dJ3_checkIndex_8e157_0 rfl 0 rfl ?_
    refine zw_if_lt hC 9 (β := Unit) (A := none) (B := some ()) (r := ()) (if_neg h1) dJ3_checkIndex_8e157_1 (by decide) (fun hf => by cases hf) (fun _ => ?_)
    refine zw_iload_n hC dJ3_checkIndex_8e157_4 rfl 0 rfl ?_
    refine zw_iload_n hC dJ3_checkIndex_8e157_5 rfl 1 rfl ?_
    refine zw_icmp_lt hC 16 (β := Unit) (A := some ()) (B := none) (r := ()) (if_pos h2) dJ3_checkIndex_8e157_6 (by decide) (fun _ => ?_) (fun hf => by cases hf)
    refine zw_iload_n hC dJ3_checkIndex_8e157_16 rfl 0 rfl ?_
    exact zw_iret hC hR dJ3_checkIndex_8e157_17
  rcases hv with rfl | ⟨t, rfl⟩
  · exact zct (by decide +kernel) (Nat.le_of_ble_eq_true rfl) rfl key
  · exact zct (by decide +kernel) (Nat.le_of_ble_eq_true rfl) rfl key
set_option maxRecDepth 100000 in
theorem zc_sck {l : Launch} {D : va_G} {ad : Nat → Nat} {cA : Nat → ClassId} {M : ZMem} {i n : Int32} (h1 : ¬ i < 0) (h2 : i < n) : ZCt l D ad cA yJ0_checkIndex_df160 cJ0_checkIndex_df160 2 none 2 [.int i, .int n] M none M := by
  refine zct (by decide +kernel) (Nat.le_of_ble_eq_true rfl) (lv := [(0, .int i), (1, .int n)]) rfl (fun E hl hD had hcA hN hC hR => ?_)
  subst hl; subst hD; subst had; subst hcA
  refine zw_iload_n hC dJ0_checkIndex_df160_0 rfl 0 rfl ?_
  refine zw_iload_n hC dJ0_checkIndex_df160_1 rfl 1 rfl ?_
  refine zw_sfmt hC dJ0_checkIndex_df160_2 kw_3_50 (fun v hv => ?_)
  refine zw_cS hC [.int i, .int n, v] [] (st1 := [.int i]) zm_J3_checkIndex_8e157 (zc_chk hv h1 h2) kw_3_52 dJ0_checkIndex_df160_5 rfl (by decide) (Nat.le_of_ble_eq_true rfl) rfl rfl ?_
  refine zw_pop hC dJ0_checkIndex_df160_8 rfl ?_
  exact zw_vret hC hR dJ0_checkIndex_df160_9
set_option maxRecDepth 100000 in
theorem zc_lat {l : Launch} {D : va_G} {ad : Nat → Nat} {cA : Nat → ClassId} {M : ZMem} {i : Nat} {j : Int32} (hi : i < zNs) (h1 : ¬ j < 0) (h2 : j.toNatClampNeg < zLen.getD i 0) : ZCt l D ad cA yJ1_charAt_3b067 cJ1_charAt_3b067 2 (some .char) 3 [.ref (ad (2000 + i)), .int j] M (some (.int ((zByt.getD i []).getD j.toNatClampNeg 0))) M := by
  have h8 := zlen_ok i hi
  obtain ⟨q, hq, rfl⟩ := nI_of h1
  rw [nI_clamp hq] at h2
  have h3 : nI q < nI (zLen.getD i 0) := nI_lt h2 (by omega)
  have hin : vp_in (nI q) (zLen.getD i 0) := vp_in_nI h2 (by omega)
  refine zct (by decide +kernel) (Nat.le_of_ble_eq_true rfl) (lv := [(0, .ref (ad (2000 + i))), (1, .int (nI q))]) rfl (fun E hl hD had hcA hN hC hR => ?_)
  subst hl; subst hD; subst had; subst hcA
  refine zw_iload_n hC dJ1_charAt_3b067_0 rfl 1 rfl ?_
  refine zw_aload_n hC dJ1_charAt_3b067_1 rfl 0 rfl ?_
  refine zw_slenB hC hi dJ1_charAt_3b067_2 ?_
  refine zw_cS hC [.int (nI q), .int (nI (zLen.getD i 0))] [] (st1 := []) zm_J0_checkIndex_df160 (zc_sck h1 h3) kw_3_47 dJ1_charAt_3b067_3 rfl (by decide) (Nat.le_of_ble_eq_true rfl) rfl rfl ?_
  refine zw_aload_n hC dJ1_charAt_3b067_6 rfl 0 rfl ?_
  refine zw_iload_n hC dJ1_charAt_3b067_7 rfl 1 rfl ?_
  refine zw_sbyte hC hi hin dJ1_charAt_3b067_8 ?_
  refine zw_sipush hC (v := (255 : Int32)) dJ1_charAt_3b067_9 (by decide) ?_
  refine zw_iand hC dJ1_charAt_3b067_12 ?_
  refine zw_i2c hC dJ1_charAt_3b067_13 ?_
  have e1 := zbyt_ok i hi (nI q).toNatClampNeg (by rw [nI_clamp hq]; omega)
  rw [sc_c2, e1]
  refine zw_zret hC hR ?_ dJ1_charAt_3b067_14
  rw [← e1]
  exact sc_nar _
set_option maxRecDepth 100000 in
theorem zc_isl {l : Launch} {D : va_G} {ad : Nat → Nat} {cA : Nat → ClassId} {M : ZMem} {i : Nat} (hi : i < zNs) : ZCt l D ad cA yJ0_isLatin1_aae02 cJ0_isLatin1_aae02 1 (some .boolean) 1 [.ref (ad (1000 + i))] M (some (.int 1)) M := by
  refine zct (by decide +kernel) (Nat.le_of_ble_eq_true rfl) (lv := [(0, .ref (ad (1000 + i)))]) rfl (fun E hl hD had hcA hN hC hR => ?_)
  subst hl; subst hD; subst had; subst hcA
  refine zw_scmp hC dJ0_isLatin1_aae02_0 kw_3_34 ?_
  refine zw_if_eq hC 17 (β := Unit) (A := none) (B := some ()) (r := ()) (by decide) dJ0_isLatin1_aae02_3 (by decide) (fun hf => by cases hf) (fun _ => ?_)
  refine zw_aload_n hC dJ0_isLatin1_aae02_6 rfl 0 rfl ?_
  refine zw_scod hC hi dJ0_isLatin1_aae02_7 kw_8_115 ?_
  refine zw_if_ne hC 17 (β := Unit) (A := none) (B := some ()) (r := ()) (by decide) dJ0_isLatin1_aae02_10 (by decide) (fun hf => by cases hf) (fun _ => ?_)
  refine zw_iconst hC (v := (1 : Int32)) dJ0_isLatin1_aae02_13 (by decide) ?_
  refine zw_goto hC 18 dJ0_isLatin1_aae02_14 (by decide) ?_
  exact zw_zret hC hR rfl dJ0_isLatin1_aae02_18
set_option maxRecDepth 100000 in
theorem zc_cod {l : Launch} {D : va_G} {ad : Nat → Nat} {cA : Nat → ClassId} {M : ZMem} {i : Nat} (hi : i < zNs) : ZCt l D ad cA yJ0_coder_7d493 cJ0_coder_7d493 1 (some .byte) 1 [.ref (ad (1000 + i))] M (some (.int 0)) M := by
  refine zct (by decide +kernel) (Nat.le_of_ble_eq_true rfl) (lv := [(0, .ref (ad (1000 + i)))]) rfl (fun E hl hD had hcA hN hC hR => ?_)
  subst hl; subst hD; subst had; subst hcA
  refine zw_scmp hC dJ0_coder_7d493_0 kw_3_34 ?_
  refine zw_if_eq hC 13 (β := Unit) (A := none) (B := some ()) (r := ()) (by decide) dJ0_coder_7d493_3 (by decide) (fun hf => by cases hf) (fun _ => ?_)
  refine zw_aload_n hC dJ0_coder_7d493_6 rfl 0 rfl ?_
  refine zw_scod hC hi dJ0_coder_7d493_7 kw_8_115 ?_
  refine zw_goto hC 14 dJ0_coder_7d493_10 (by decide) ?_
  exact zw_zret hC hR rfl dJ0_coder_7d493_14
set_option maxRecDepth 100000 in
theorem zc_slen {l : Launch} {D : va_G} {ad : Nat → Nat} {cA : Nat → ClassId} {M : ZMem} {i : Nat} (hi : i < zNs) : ZCt l D ad cA yJ0_length_8abf5 cJ0_length_8abf5 1 (some .int) 2 [.ref (ad (1000 + i))] M (some (.int (nI (zLen.getD i 0)))) M := by
  refine zct (by decide +kernel) (Nat.le_of_ble_eq_true rfl) (lv := [(0, .ref (ad (1000 + i)))]) rfl (fun E hl hD had hcA hN hC hR => ?_)
  subst hl; subst hD; subst had; subst hcA
  refine zw_aload_n hC dJ0_length_8abf5_0 rfl 0 rfl ?_
  refine zw_sval hC hi dJ0_length_8abf5_1 kw_8_114 ?_
  refine zw_slenB hC hi dJ0_length_8abf5_4 ?_
  refine zw_aload_n hC dJ0_length_8abf5_5 rfl 0 rfl ?_
  refine zw_cT hC [] [.int (nI (zLen.getD i 0))] (st1 := [.int 0, .int (nI (zLen.getD i 0))]) hi zm_J0_coder_7d493 (zc_cod hi) kw_3_30 dJ0_length_8abf5_6 rfl (by decide) (Nat.le_of_ble_eq_true rfl) rfl rfl ?_
  refine zw_ishr hC dJ0_length_8abf5_9 ?_
  rw [sb_shr0]
  exact zw_iret hC hR dJ0_length_8abf5_10
set_option maxRecDepth 100000 in
theorem zc_schr {l : Launch} {D : va_G} {ad : Nat → Nat} {cA : Nat → ClassId} {M : ZMem} {i : Nat} {j : Int32} (hi : i < zNs) (h1 : ¬ j < 0) (h2 : j.toNatClampNeg < zLen.getD i 0) : ZCt l D ad cA yJ0_charAt_5068e cJ0_charAt_5068e 2 (some .char) 4 [.ref (ad (1000 + i)), .int j] M (some (.int ((zByt.getD i []).getD j.toNatClampNeg 0))) M := by
  refine zct (by decide +kernel) (Nat.le_of_ble_eq_true rfl) (lv := [(0, .ref (ad (1000 + i))), (1, .int j)]) rfl (fun E hl hD had hcA hN hC hR => ?_)
  subst hl; subst hD; subst had; subst hcA
  refine zw_aload_n hC dJ0_charAt_5068e_0 rfl 0 rfl ?_
  refine zw_cT hC [] [] (st1 := [.int 1]) hi zm_J0_isLatin1_aae02 (zc_isl hi) kw_3_40 dJ0_charAt_5068e_1 rfl (by decide) (Nat.le_of_ble_eq_true rfl) rfl rfl ?_
  refine zw_if_eq hC 16 (β := Unit) (A := none) (B := some ()) (r := ()) (by decide) dJ0_charAt_5068e_4 (by decide) (fun hf => by cases hf) (fun _ => ?_)
  refine zw_aload_n hC dJ0_charAt_5068e_7 rfl 0 rfl ?_
  refine zw_sval hC hi dJ0_charAt_5068e_8 kw_8_114 ?_
  refine zw_iload_n hC dJ0_charAt_5068e_11 rfl 1 rfl ?_
  refine zw_cS hC [.ref (zad E (2000 + i)), .int j] [] (st1 := [.int ((zByt.getD i []).getD j.toNatClampNeg 0)]) zm_J1_charAt_3b067 (zc_lat hi h1 h2) kw_3_44 dJ0_charAt_5068e_12 rfl (by decide) (Nat.le_of_ble_eq_true rfl) rfl rfl ?_
  refine zw_zret hC hR ?_ dJ0_charAt_5068e_15
  have h8 := zlen_ok i hi
  rw [← zbyt_ok i hi j.toNatClampNeg (by omega)]
  exact sc_nar _
def zslen {β : Type} (i : Nat) (K : Int32 → Option β) : Option β := if i < zNs then K (nI (zLen.getD i 0)) else none
def zschr {β : Type} (i : Nat) (j : Int32) (K : Int32 → Option β) : Option β := if i < zNs ∧ ¬ j < 0 ∧ j.toNatClampNeg < zLen.getD i 0 then K ((zByt.getD i []).getD j.toNatClampNeg 0) else none
theorem zw_slen {E : ZEnv} {cc : ByteArray} {own : String} {d pc : Nat} {lv : List (Nat × Value)} {st : List Value} {M : ZMem} (hC : ZCx E cc own d) (hd1 : 8 ≤ d) (hst : (st.map fun v => v.category).sum ≤ 8) {index i : Nat} {β : Type} {K : Int32 → Option β} {r : β} (hf : zslen i K = some r) (hd : decode cc pc = .ok (.invokevirtual index, 3)) (hlink : Cond.methodLink own index yJ0_length_8abf5 ∈ zTw) (kk : ∀ v, K v = some r → ZW E (pc + 3) lv (.int v :: st) M) : ZW E pc lv (.ref (zad E (1000 + i)) :: st) M := by
  unfold zslen at hf
  split at hf
  · rename_i hi
    exact zw_cT hC [] st hi zm_J0_length_8abf5 (zc_slen hi) hlink hd rfl (by omega) hst rfl rfl (kk _ hf)
  · cases hf
theorem zw_schr {E : ZEnv} {cc : ByteArray} {own : String} {d pc : Nat} {lv : List (Nat × Value)} {st : List Value} {M : ZMem} (hC : ZCx E cc own d) (hd1 : 8 ≤ d) (hst : (st.map fun v => v.category).sum ≤ 8) {index i : Nat} {j : Int32} {β : Type} {K : Int32 → Option β} {r : β} (hf : zschr i j K = some r) (hd : decode cc pc = .ok (.invokevirtual index, 3)) (hlink : Cond.methodLink own index yJ0_charAt_5068e ∈ zTw) (kk : ∀ v, K v = some r → ZW E (pc + 3) lv (.int v :: st) M) : ZW E pc lv (.int j :: .ref (zad E (1000 + i)) :: st) M := by
  unfold zschr at hf
  split at hf
  · rename_i hi
    exact zw_cT hC [.int j] st hi.1 zm_J0_charAt_5068e (zc_schr hi.1 hi.2.1 hi.2.2) hlink hd rfl (by omega) hst rfl rfl (kk _ hf)
  · cases hf
theorem zl_X9_433 : ("ClassOfMany", 433, "fund", 0) ∈ zLdc := by decide +kernel
theorem zl_X9_434 : ("ClassOfMany", 434, "fee", 1) ∈ zLdc := by decide +kernel
theorem zl_X9_435 : ("ClassOfMany", 435, "least", 2) ∈ zLdc := by decide +kernel
theorem zl_X9_436 : ("ClassOfMany", 436, "till", 3) ∈ zLdc := by decide +kernel
theorem zl_X9_437 : ("ClassOfMany", 437, "period", 4) ∈ zLdc := by decide +kernel
theorem zl_X9_439 : ("ClassOfMany", 439, "channel", 5) ∈ zLdc := by decide +kernel
theorem zl_X9_441 : ("ClassOfMany", 441, "member", 6) ∈ zLdc := by decide +kernel
theorem zl_X9_443 : ("ClassOfMany", 443, "conflict", 7) ∈ zLdc := by decide +kernel
theorem zl_X4_163 : ("ClassOfMany$Reader", 163, "by", 8) ∈ zLdc := by decide +kernel
theorem zl_X2_27 : ("ClassOfMany$Page", 27, ";", 9) ∈ zLdc := by decide +kernel
theorem zl_X9_422 : ("ClassOfMany", 422, " by", 10) ∈ zLdc := by decide +kernel
theorem zl_X9_424 : ("ClassOfMany", 424, ";", 9) ∈ zLdc := by decide +kernel
theorem zl_X9_426 : ("ClassOfMany", 426, "paid", 11) ∈ zLdc := by decide +kernel
theorem zl_X9_428 : ("ClassOfMany", 428, "next", 12) ∈ zLdc := by decide +kernel
theorem zw_kout2 {E : ZEnv} {cc : ByteArray} {own : String} {d pc : Nat} {lv : List (Nat × Value)} {st : List Value} {M : ZMem} (hC : ZCx E cc own d) {x : Int32} (h0 : ¬ x = 0) (h1 : ¬ x = 1) {dflt o0 o1 : Int} {len tgt : Nat} (hd : decode cc pc = .ok (.lookupswitch dflt #[(0, o0), (1, o1)], len)) (ht : (pc : Int) + dflt = (tgt : Int)) (kk : ZW E tgt lv st M) : ZW E pc lv (.int x :: st) M := by
  have g0 : ¬ x.toInt = 0 := fun z => h0 (Int32.toInt_inj.mp (by rw [z]; rfl))
  have g1 : ¬ x.toInt = 1 := fun z => h1 (Int32.toInt_inj.mp (by rw [z]; rfl))
  obtain ⟨p, l, e, R, s, m, args, below, meth, c, cells, slots, Q, D, ad, cA, nL⟩ := E
  obtain ⟨hx, hb, hml, hown, hts, hK, hinj, hX, hc1, hc2, hR1, hR2⟩ := hC
  intro H locs ls hP hS hl
  refine lv_lookup hx hb hd (by rfl) (off := dflt) ?_ ht (kk H locs ls hP hS hl)
  simp [Op.lookupswitch.offset, g0, g1, Ne.symm g0, Ne.symm g1]
  try omega
