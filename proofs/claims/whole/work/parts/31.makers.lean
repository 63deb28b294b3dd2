/-! the constructors -/
theorem yo_int (s : State) (a b : ClassId) : va_RA s a .int → va_RA s b .int → a = b := fun h g => Option.some.inj (h.symm.trans g)
theorem yo_byte (s : State) (a b : ClassId) : va_RA s a .byte → va_RA s b .byte → a = b := fun h g => Option.some.inj (h.symm.trans g)
theorem yo_boolean (s : State) (a b : ClassId) : va_RA s a .boolean → va_RA s b .boolean → a = b := fun h g => Option.some.inj (h.symm.trans g)
def yp_Told (cA : Nat → ClassId) (h0 : Nat) (u : Nat → Nat) : va_W := (((((((((([(h0, .inr (7, [.int 0, .int 0, .ref (u 1), .ref (u 2), .ref (u 3), .ref (u 4), .ref (u 5), .ref (u 6), .int 0, .int 0, .int 99, .int 0, .ref (u 7), .ref (u 8), .ref (u 9), .int 0, .ref (u 10)]))] ++ [(u 1, .inl (cA 10, 10, .inl (fun _ => 0)))]) ++ [(u 2, .inl (cA 10, 10, .inl (fun _ => 0)))]) ++ [(u 3, .inl (cA 10, 10, .inl (fun _ => 0)))]) ++ [(u 4, .inl (cA 10, 10, .inl (fun _ => 0)))]) ++ [(u 5, .inl (cA 10, 4, .inl (fun _ => 0)))]) ++ [(u 6, .inl (cA 10, 4, .inl (fun _ => 0)))]) ++ [(u 7, .inl (cA 10, 80, .inl (fun _ => 0)))]) ++ [(u 8, .inl (cA 10, 80, .inl (fun _ => 0)))]) ++ [(u 9, .inl (cA 10, 80, .inl (fun _ => 0)))]) ++ [(u 10, .inl (cA 10, 200, .inl (fun _ => 0)))])
def yp_Standing (cA : Nat → ClassId) (h0 : Nat) (u : Nat → Nat) : va_W := ([(h0, .inr (6, [.int 0, .int 0, .int (-2), .int 0, .int 0, .int 0, .int 0, .int 0, .int 0, .int 0, .int 99, .ref (u 1)]))] ++ [(u 1, .inl (cA 10, 10, .inl (fun _ => 0)))])
def yp_Journal (cA : Nat → ClassId) (h0 : Nat) (u : Nat → Nat) : va_W := ((((((((((((([(h0, .inr (0, [.ref (u 1), .int 0, .int 0]))] ++ [(u 1, .inl (cA 13, 12, .inr (.inr (.inr (.inr (fun j => if j < 12 then some (u (2 + 2 * j)) else none))))))]) ++ yp_Standing cA (u 2) (fun i => u (2 + i))) ++ yp_Standing cA (u 4) (fun i => u (4 + i))) ++ yp_Standing cA (u 6) (fun i => u (6 + i))) ++ yp_Standing cA (u 8) (fun i => u (8 + i))) ++ yp_Standing cA (u 10) (fun i => u (10 + i))) ++ yp_Standing cA (u 12) (fun i => u (12 + i))) ++ yp_Standing cA (u 14) (fun i => u (14 + i))) ++ yp_Standing cA (u 16) (fun i => u (16 + i))) ++ yp_Standing cA (u 18) (fun i => u (18 + i))) ++ yp_Standing cA (u 20) (fun i => u (20 + i))) ++ yp_Standing cA (u 22) (fun i => u (22 + i))) ++ yp_Standing cA (u 24) (fun i => u (24 + i)))
def yp_Reader (cA : Nat → ClassId) (h0 : Nat) (u : Nat → Nat) : va_W := ((([(h0, .inr (3, [.ref (u 1), .int 0, .int 0, .int 0, .int 0, .int 0, .ref (u 2), .ref (u 13)]))] ++ [(u 1, .inl (cA 10, 400, .inl (fun _ => 0)))]) ++ yp_Told cA (u 2) (fun i => u (2 + i))) ++ yp_Standing cA (u 13) (fun i => u (13 + i)))
def yp_Splitter (cA : Nat → ClassId) (h0 : Nat) (u : Nat → Nat) : va_W := ((((([(h0, .inr (5, [.int 0, .int 0, .int 0, .ref (u 1), .ref (u 2), .int 0, .ref (u 3), .ref (u 4), .ref (u 5)]))] ++ [(u 1, .inl (cA 10, 10, .inl (fun _ => 0)))]) ++ [(u 2, .inl (cA 10, 10, .inl (fun _ => 0)))]) ++ [(u 3, .inl (cA 12, 1024, .inl (fun _ => 0)))]) ++ [(u 4, .inl (cA 10, 1024, .inl (fun _ => 0)))]) ++ [(u 5, .inl (cA 10, 1024, .inl (fun _ => 0)))])
def yp_Payer (cA : Nat → ClassId) (h0 : Nat) (u : Nat → Nat) : va_W := ((((((([(h0, .inr (2, [.ref (u 1), .ref (u 2), .ref (u 3), .ref (u 4), .ref (u 5), .ref (u 6), .ref (u 7), .int 0, .int 0, .int 0, .int 0, .int 0, .int 0, .int 0, .int 0, .int 0, .int 0, .int 0]))] ++ [(u 1, .inl (cA 10, 10, .inl (fun _ => 0)))]) ++ [(u 2, .inl (cA 10, 10, .inl (fun _ => 0)))]) ++ [(u 3, .inl (cA 10, 10, .inl (fun _ => 0)))]) ++ [(u 4, .inl (cA 10, 10, .inl (fun _ => 0)))]) ++ [(u 5, .inl (cA 10, 10, .inl (fun _ => 0)))]) ++ [(u 6, .inl (cA 10, 10, .inl (fun _ => 0)))]) ++ [(u 7, .inl (cA 10, 90, .inl (fun _ => 0)))])
def yp_Resting (cA : Nat → ClassId) (h0 : Nat) (u : Nat → Nat) : va_W := ((([(h0, .inr (4, [.int 0, .int 0, .int 0, .int 0, .ref (u 1), .ref (u 2), .ref (u 3)]))] ++ [(u 1, .inl (cA 10, 1024, .inl (fun _ => 0)))]) ++ [(u 2, .inl (cA 10, 1024, .inl (fun _ => 0)))]) ++ [(u 3, .inl (cA 10, 10, .inl (fun _ => 0)))])
def yp_Page (cA : Nat → ClassId) (h0 : Nat) (u : Nat → Nat) : va_W := ([(h0, .inr (1, [.ref (u 1), .int 0]))] ++ [(u 1, .inl (cA 11, 1024, .inl (fun _ => 0)))])
def yp_ClassOfMany (cA : Nat → ClassId) (h0 : Nat) (u : Nat → Nat) : va_W := ((((((((([(h0, .inr (8, [.ref (u 1), .ref (u 12), .ref (u 14), .ref (u 16), .ref (u 42), .ref (u 57), .ref (u 63), .ref (u 71), .ref (u 75)]))] ++ yp_Told cA (u 1) (fun i => u (1 + i))) ++ yp_Standing cA (u 12) (fun i => u (12 + i))) ++ yp_Standing cA (u 14) (fun i => u (14 + i))) ++ yp_Journal cA (u 16) (fun i => u (16 + i))) ++ yp_Reader cA (u 42) (fun i => u (42 + i))) ++ yp_Splitter cA (u 57) (fun i => u (57 + i))) ++ yp_Payer cA (u 63) (fun i => u (63 + i))) ++ yp_Resting cA (u 71) (fun i => u (71 + i))) ++ yp_Page cA (u 75) (fun i => u (75 + i)))
def yk_now : Nat → Int32 := upd (upd (upd (fun _ => 0) 5 99) 7 99) 11 (-1)
def yp_Model (cA : Nat → ClassId) (h0 : Nat) (u : Nat → Nat) : va_W := (((((((((((((((([(h0, .inr (9, [.int 0, .ref (u 1), .ref (u 2), .ref (u 3), .int 0, .ref (u 4), .int 0, .int 0, .int 0, .int 0, .int 0, .int 0, .int 0, .ref (u 5), .ref (u 6), .ref (u 7), .int 0, .int 0, .int 0, .ref (u 8), .int 0, .int 0, .int 0, .int 0, .int 0, .int 0, .ref (u 9), .ref (u 10), .int 0, .int 0, .ref (u 11), .ref (u 12), .ref (u 13), .ref (u 14), .ref (u 15), .ref (u 16), .int 0]))] ++ [(u 1, .inl (cA 10, 73, .inl (yk_now)))]) ++ [(u 2, .inl (cA 10, 73, .inl (fun _ => 0)))]) ++ [(u 3, .inl (cA 10, 876, .inl (fun _ => 0)))]) ++ [(u 4, .inl (cA 10, 400, .inl (fun _ => 0)))]) ++ [(u 5, .inl (cA 10, 140, .inl (fun _ => 0)))]) ++ [(u 6, .inl (cA 10, 140, .inl (fun _ => 0)))]) ++ [(u 7, .inl (cA 10, 1120, .inl (fun _ => 0)))]) ++ [(u 8, .inl (cA 10, 10, .inl (fun _ => 0)))]) ++ [(u 9, .inl (cA 10, 10, .inl (fun _ => 0)))]) ++ [(u 10, .inl (cA 10, 90, .inl (fun _ => 0)))]) ++ [(u 11, .inl (cA 10, 10, .inl (fun _ => 0)))]) ++ [(u 12, .inl (cA 10, 10, .inl (fun _ => 0)))]) ++ [(u 13, .inl (cA 10, 10, .inl (fun _ => 0)))]) ++ [(u 14, .inl (cA 10, 10, .inl (fun _ => 0)))]) ++ [(u 15, .inl (cA 10, 10240, .inl (fun _ => 0)))]) ++ [(u 16, .inl (cA 10, 2000, .inl (fun _ => 0)))])
theorem dX8_init_0 : decode cX8_init 0 = .ok (.aload_n 0, 1) := by decide +kernel
theorem dX8_init_1 : decode cX8_init 1 = .ok (.invokespecial 3, 3) := by decide +kernel
theorem dX8_init_4 : decode cX8_init 4 = .ok (.aload_n 0, 1) := by decide +kernel
theorem dX8_init_5 : decode cX8_init 5 = .ok (.bipush 10, 2) := by decide +kernel
theorem dX8_init_7 : decode cX8_init 7 = .ok (.newarray .int, 2) := by decide +kernel
theorem dX8_init_9 : decode cX8_init 9 = .ok (.putfield 9, 3) := by decide +kernel
theorem dX8_init_12 : decode cX8_init 12 = .ok (.aload_n 0, 1) := by decide +kernel
theorem dX8_init_13 : decode cX8_init 13 = .ok (.bipush 10, 2) := by decide +kernel
theorem dX8_init_15 : decode cX8_init 15 = .ok (.newarray .int, 2) := by decide +kernel
theorem dX8_init_17 : decode cX8_init 17 = .ok (.putfield 15, 3) := by decide +kernel
theorem dX8_init_20 : decode cX8_init 20 = .ok (.aload_n 0, 1) := by decide +kernel
theorem dX8_init_21 : decode cX8_init 21 = .ok (.bipush 10, 2) := by decide +kernel
theorem dX8_init_23 : decode cX8_init 23 = .ok (.newarray .int, 2) := by decide +kernel
theorem dX8_init_25 : decode cX8_init 25 = .ok (.putfield 18, 3) := by decide +kernel
theorem dX8_init_28 : decode cX8_init 28 = .ok (.aload_n 0, 1) := by decide +kernel
theorem dX8_init_29 : decode cX8_init 29 = .ok (.bipush 10, 2) := by decide +kernel
theorem dX8_init_31 : decode cX8_init 31 = .ok (.newarray .int, 2) := by decide +kernel
theorem dX8_init_33 : decode cX8_init 33 = .ok (.putfield 21, 3) := by decide +kernel
theorem dX8_init_36 : decode cX8_init 36 = .ok (.aload_n 0, 1) := by decide +kernel
theorem dX8_init_37 : decode cX8_init 37 = .ok (.iconst 4, 1) := by decide +kernel
theorem dX8_init_38 : decode cX8_init 38 = .ok (.newarray .int, 2) := by decide +kernel
theorem dX8_init_40 : decode cX8_init 40 = .ok (.putfield 24, 3) := by decide +kernel
theorem dX8_init_43 : decode cX8_init 43 = .ok (.aload_n 0, 1) := by decide +kernel
theorem dX8_init_44 : decode cX8_init 44 = .ok (.iconst 4, 1) := by decide +kernel
theorem dX8_init_45 : decode cX8_init 45 = .ok (.newarray .int, 2) := by decide +kernel
theorem dX8_init_47 : decode cX8_init 47 = .ok (.putfield 27, 3) := by decide +kernel
theorem dX8_init_50 : decode cX8_init 50 = .ok (.aload_n 0, 1) := by decide +kernel
theorem dX8_init_51 : decode cX8_init 51 = .ok (.bipush 99, 2) := by decide +kernel
theorem dX8_init_53 : decode cX8_init 53 = .ok (.putfield 30, 3) := by decide +kernel
theorem dX8_init_56 : decode cX8_init 56 = .ok (.aload_n 0, 1) := by decide +kernel
theorem dX8_init_57 : decode cX8_init 57 = .ok (.bipush 80, 2) := by decide +kernel
theorem dX8_init_59 : decode cX8_init 59 = .ok (.newarray .int, 2) := by decide +kernel
theorem dX8_init_61 : decode cX8_init 61 = .ok (.putfield 34, 3) := by decide +kernel
theorem dX8_init_64 : decode cX8_init 64 = .ok (.aload_n 0, 1) := by decide +kernel
theorem dX8_init_65 : decode cX8_init 65 = .ok (.bipush 80, 2) := by decide +kernel
theorem dX8_init_67 : decode cX8_init 67 = .ok (.newarray .int, 2) := by decide +kernel
theorem dX8_init_69 : decode cX8_init 69 = .ok (.putfield 37, 3) := by decide +kernel
theorem dX8_init_72 : decode cX8_init 72 = .ok (.aload_n 0, 1) := by decide +kernel
theorem dX8_init_73 : decode cX8_init 73 = .ok (.bipush 80, 2) := by decide +kernel
theorem dX8_init_75 : decode cX8_init 75 = .ok (.newarray .int, 2) := by decide +kernel
theorem dX8_init_77 : decode cX8_init 77 = .ok (.putfield 40, 3) := by decide +kernel
theorem dX8_init_80 : decode cX8_init 80 = .ok (.aload_n 0, 1) := by decide +kernel
theorem dX8_init_81 : decode cX8_init 81 = .ok (.sipush 200, 3) := by decide +kernel
theorem dX8_init_84 : decode cX8_init 84 = .ok (.newarray .int, 2) := by decide +kernel
theorem dX8_init_86 : decode cX8_init 86 = .ok (.putfield 43, 3) := by decide +kernel
theorem dX8_init_89 : decode cX8_init 89 = .ok (.return_, 1) := by decide +kernel
set_option maxHeartbeats 8000000 in
set_option maxRecDepth 100000 in
theorem yc_Told {l : Launch} {D : va_G} {cA : Nat → ClassId} {h0 : Nat} : YCt l D cA yX8_init cX8_init 1 1 10 488 h0 [(h0, .inr (7, [.int 0, .int 0, .null, .null, .null, .null, .null, .null, .int 0, .int 0, .int 0, .int 0, .null, .null, .null, .int 0, .null]))] (yp_Told cA h0) := by
  refine yct (by decide +kernel) (by decide) (fun E hl hD hcA hN hIn hC hR => ?_)
  subst hl; subst hD; subst hcA
  refine yw_aload_n hC dX8_init_0 rfl 0 rfl ?_
  refine yw_obj hC (by decide) dX8_init_1 kw_1_33 kw_1_26 kw_1_27 ?_
  refine yw_aload_n hC dX8_init_4 rfl 0 rfl ?_
  refine yw_bipush hC (v := 10) dX8_init_5 (by decide) ?_
  refine yw_newa hC (atype := .int) (ty := .int) (t0 := 0) (c0 := ycA E 10) (N := 10) kw_1_125 rfl rfl yo_int (fun _ => rfl) (by decide) (by decide) (by decide) (Nat.le_of_ble_eq_true rfl) (Nat.le_of_ble_eq_true rfl) dX8_init_7 (fun q1 => ?_)
  refine yw_putF hC (hIn rfl) (ws' := ([(h0, .inr (7, [.int 0, .int 0, .ref q1, .null, .null, .null, .null, .null, .int 0, .int 0, .int 0, .int 0, .null, .null, .null, .int 0, .null]))] ++ [(q1, .inl (ycA E 10, 10, .inl (fun _ => 0)))])) (ty := .array .int) zF_Told_from.1 0 rfl (by decide +kernel) rfl rfl (by decide) kw_1_45 dX8_init_9 rfl ?_
  refine yw_aload_n hC dX8_init_12 rfl 0 rfl ?_
  refine yw_bipush hC (v := 10) dX8_init_13 (by decide) ?_
  refine yw_newa hC (atype := .int) (ty := .int) (t0 := 0) (c0 := ycA E 10) (N := 10) kw_1_125 rfl rfl yo_int (fun _ => rfl) (by decide) (by decide) (by decide) (Nat.le_of_ble_eq_true rfl) (Nat.le_of_ble_eq_true rfl) dX8_init_15 (fun q2 => ?_)
  refine yw_putF hC (hIn rfl) (ws' := (([(h0, .inr (7, [.int 0, .int 0, .ref q1, .ref q2, .null, .null, .null, .null, .int 0, .int 0, .int 0, .int 0, .null, .null, .null, .int 0, .null]))] ++ [(q1, .inl (ycA E 10, 10, .inl (fun _ => 0)))]) ++ [(q2, .inl (ycA E 10, 10, .inl (fun _ => 0)))])) (ty := .array .int) zF_Told_to.1 0 rfl (by decide +kernel) rfl rfl (by decide) kw_1_49 dX8_init_17 rfl ?_
  refine yw_aload_n hC dX8_init_20 rfl 0 rfl ?_
  refine yw_bipush hC (v := 10) dX8_init_21 (by decide) ?_
  refine yw_newa hC (atype := .int) (ty := .int) (t0 := 0) (c0 := ycA E 10) (N := 10) kw_1_125 rfl rfl yo_int (fun _ => rfl) (by decide) (by decide) (by decide) (Nat.le_of_ble_eq_true rfl) (Nat.le_of_ble_eq_true rfl) dX8_init_23 (fun q3 => ?_)
  refine yw_putF hC (hIn rfl) (ws' := ((([(h0, .inr (7, [.int 0, .int 0, .ref q1, .ref q2, .ref q3, .null, .null, .null, .int 0, .int 0, .int 0, .int 0, .null, .null, .null, .int 0, .null]))] ++ [(q1, .inl (ycA E 10, 10, .inl (fun _ => 0)))]) ++ [(q2, .inl (ycA E 10, 10, .inl (fun _ => 0)))]) ++ [(q3, .inl (ycA E 10, 10, .inl (fun _ => 0)))])) (ty := .array .int) zF_Told_rate.1 0 rfl (by decide +kernel) rfl rfl (by decide) kw_1_53 dX8_init_25 rfl ?_
  refine yw_aload_n hC dX8_init_28 rfl 0 rfl ?_
  refine yw_bipush hC (v := 10) dX8_init_29 (by decide) ?_
  refine yw_newa hC (atype := .int) (ty := .int) (t0 := 0) (c0 := ycA E 10) (N := 10) kw_1_125 rfl rfl yo_int (fun _ => rfl) (by decide) (by decide) (by decide) (Nat.le_of_ble_eq_true rfl) (Nat.le_of_ble_eq_true rfl) dX8_init_31 (fun q4 => ?_)
  refine yw_putF hC (hIn rfl) (ws' := (((([(h0, .inr (7, [.int 0, .int 0, .ref q1, .ref q2, .ref q3, .ref q4, .null, .null, .int 0, .int 0, .int 0, .int 0, .null, .null, .null, .int 0, .null]))] ++ [(q1, .inl (ycA E 10, 10, .inl (fun _ => 0)))]) ++ [(q2, .inl (ycA E 10, 10, .inl (fun _ => 0)))]) ++ [(q3, .inl (ycA E 10, 10, .inl (fun _ => 0)))]) ++ [(q4, .inl (ycA E 10, 10, .inl (fun _ => 0)))])) (ty := .array .int) zF_Told_reach.1 0 rfl (by decide +kernel) rfl rfl (by decide) kw_1_57 dX8_init_33 rfl ?_
  refine yw_aload_n hC dX8_init_36 rfl 0 rfl ?_
  refine yw_iconst hC (v := 4) dX8_init_37 (by decide) ?_
  refine yw_newa hC (atype := .int) (ty := .int) (t0 := 0) (c0 := ycA E 10) (N := 4) kw_1_125 rfl rfl yo_int (fun _ => rfl) (by decide) (by decide) (by decide) (Nat.le_of_ble_eq_true rfl) (Nat.le_of_ble_eq_true rfl) dX8_init_38 (fun q5 => ?_)
  refine yw_putF hC (hIn rfl) (ws' := ((((([(h0, .inr (7, [.int 0, .int 0, .ref q1, .ref q2, .ref q3, .ref q4, .ref q5, .null, .int 0, .int 0, .int 0, .int 0, .null, .null, .null, .int 0, .null]))] ++ [(q1, .inl (ycA E 10, 10, .inl (fun _ => 0)))]) ++ [(q2, .inl (ycA E 10, 10, .inl (fun _ => 0)))]) ++ [(q3, .inl (ycA E 10, 10, .inl (fun _ => 0)))]) ++ [(q4, .inl (ycA E 10, 10, .inl (fun _ => 0)))]) ++ [(q5, .inl (ycA E 10, 4, .inl (fun _ => 0)))])) (ty := .array .int) zF_Told_cost.1 0 rfl (by decide +kernel) rfl rfl (by decide) kw_1_61 dX8_init_40 rfl ?_
  refine yw_aload_n hC dX8_init_43 rfl 0 rfl ?_
  refine yw_iconst hC (v := 4) dX8_init_44 (by decide) ?_
  refine yw_newa hC (atype := .int) (ty := .int) (t0 := 0) (c0 := ycA E 10) (N := 4) kw_1_125 rfl rfl yo_int (fun _ => rfl) (by decide) (by decide) (by decide) (Nat.le_of_ble_eq_true rfl) (Nat.le_of_ble_eq_true rfl) dX8_init_45 (fun q6 => ?_)
  refine yw_putF hC (hIn rfl) (ws' := (((((([(h0, .inr (7, [.int 0, .int 0, .ref q1, .ref q2, .ref q3, .ref q4, .ref q5, .ref q6, .int 0, .int 0, .int 0, .int 0, .null, .null, .null, .int 0, .null]))] ++ [(q1, .inl (ycA E 10, 10, .inl (fun _ => 0)))]) ++ [(q2, .inl (ycA E 10, 10, .inl (fun _ => 0)))]) ++ [(q3, .inl (ycA E 10, 10, .inl (fun _ => 0)))]) ++ [(q4, .inl (ycA E 10, 10, .inl (fun _ => 0)))]) ++ [(q5, .inl (ycA E 10, 4, .inl (fun _ => 0)))]) ++ [(q6, .inl (ycA E 10, 4, .inl (fun _ => 0)))])) (ty := .array .int) zF_Told_wait.1 0 rfl (by decide +kernel) rfl rfl (by decide) kw_1_65 dX8_init_47 rfl ?_
  refine yw_aload_n hC dX8_init_50 rfl 0 rfl ?_
  refine yw_bipush hC (v := 99) dX8_init_51 (by decide) ?_
  refine yw_put hC (ws' := (((((([(h0, .inr (7, [.int 0, .int 0, .ref q1, .ref q2, .ref q3, .ref q4, .ref q5, .ref q6, .int 0, .int 0, .int 99, .int 0, .null, .null, .null, .int 0, .null]))] ++ [(q1, .inl (ycA E 10, 10, .inl (fun _ => 0)))]) ++ [(q2, .inl (ycA E 10, 10, .inl (fun _ => 0)))]) ++ [(q3, .inl (ycA E 10, 10, .inl (fun _ => 0)))]) ++ [(q4, .inl (ycA E 10, 10, .inl (fun _ => 0)))]) ++ [(q5, .inl (ycA E 10, 4, .inl (fun _ => 0)))]) ++ [(q6, .inl (ycA E 10, 4, .inl (fun _ => 0)))])) (ty := .int) zF_Told_till.1 0 rfl (by decide +kernel) rfl rfl (by decide) kw_1_76 dX8_init_53 rfl ?_
  refine yw_aload_n hC dX8_init_56 rfl 0 rfl ?_
  refine yw_bipush hC (v := 80) dX8_init_57 (by decide) ?_
  refine yw_newa hC (atype := .int) (ty := .int) (t0 := 0) (c0 := ycA E 10) (N := 80) kw_1_125 rfl rfl yo_int (fun _ => rfl) (by decide) (by decide) (by decide) (Nat.le_of_ble_eq_true rfl) (Nat.le_of_ble_eq_true rfl) dX8_init_59 (fun q7 => ?_)
  refine yw_putF hC (hIn rfl) (ws' := ((((((([(h0, .inr (7, [.int 0, .int 0, .ref q1, .ref q2, .ref q3, .ref q4, .ref q5, .ref q6, .int 0, .int 0, .int 99, .int 0, .ref q7, .null, .null, .int 0, .null]))] ++ [(q1, .inl (ycA E 10, 10, .inl (fun _ => 0)))]) ++ [(q2, .inl (ycA E 10, 10, .inl (fun _ => 0)))]) ++ [(q3, .inl (ycA E 10, 10, .inl (fun _ => 0)))]) ++ [(q4, .inl (ycA E 10, 10, .inl (fun _ => 0)))]) ++ [(q5, .inl (ycA E 10, 4, .inl (fun _ => 0)))]) ++ [(q6, .inl (ycA E 10, 4, .inl (fun _ => 0)))]) ++ [(q7, .inl (ycA E 10, 80, .inl (fun _ => 0)))])) (ty := .array .int) zF_Told_sorts.1 0 rfl (by decide +kernel) rfl rfl (by decide) kw_1_81 dX8_init_61 rfl ?_
  refine yw_aload_n hC dX8_init_64 rfl 0 rfl ?_
  refine yw_bipush hC (v := 80) dX8_init_65 (by decide) ?_
  refine yw_newa hC (atype := .int) (ty := .int) (t0 := 0) (c0 := ycA E 10) (N := 80) kw_1_125 rfl rfl yo_int (fun _ => rfl) (by decide) (by decide) (by decide) (Nat.le_of_ble_eq_true rfl) (Nat.le_of_ble_eq_true rfl) dX8_init_67 (fun q8 => ?_)
  refine yw_putF hC (hIn rfl) (ws' := (((((((([(h0, .inr (7, [.int 0, .int 0, .ref q1, .ref q2, .ref q3, .ref q4, .ref q5, .ref q6, .int 0, .int 0, .int 99, .int 0, .ref q7, .ref q8, .null, .int 0, .null]))] ++ [(q1, .inl (ycA E 10, 10, .inl (fun _ => 0)))]) ++ [(q2, .inl (ycA E 10, 10, .inl (fun _ => 0)))]) ++ [(q3, .inl (ycA E 10, 10, .inl (fun _ => 0)))]) ++ [(q4, .inl (ycA E 10, 10, .inl (fun _ => 0)))]) ++ [(q5, .inl (ycA E 10, 4, .inl (fun _ => 0)))]) ++ [(q6, .inl (ycA E 10, 4, .inl (fun _ => 0)))]) ++ [(q7, .inl (ycA E 10, 80, .inl (fun _ => 0)))]) ++ [(q8, .inl (ycA E 10, 80, .inl (fun _ => 0)))])) (ty := .array .int) zF_Told_starts.1 0 rfl (by decide +kernel) rfl rfl (by decide) kw_1_83 dX8_init_69 rfl ?_
  refine yw_aload_n hC dX8_init_72 rfl 0 rfl ?_
  refine yw_bipush hC (v := 80) dX8_init_73 (by decide) ?_
  refine yw_newa hC (atype := .int) (ty := .int) (t0 := 0) (c0 := ycA E 10) (N := 80) kw_1_125 rfl rfl yo_int (fun _ => rfl) (by decide) (by decide) (by decide) (Nat.le_of_ble_eq_true rfl) (Nat.le_of_ble_eq_true rfl) dX8_init_75 (fun q9 => ?_)
  refine yw_putF hC (hIn rfl) (ws' := ((((((((([(h0, .inr (7, [.int 0, .int 0, .ref q1, .ref q2, .ref q3, .ref q4, .ref q5, .ref q6, .int 0, .int 0, .int 99, .int 0, .ref q7, .ref q8, .ref q9, .int 0, .null]))] ++ [(q1, .inl (ycA E 10, 10, .inl (fun _ => 0)))]) ++ [(q2, .inl (ycA E 10, 10, .inl (fun _ => 0)))]) ++ [(q3, .inl (ycA E 10, 10, .inl (fun _ => 0)))]) ++ [(q4, .inl (ycA E 10, 10, .inl (fun _ => 0)))]) ++ [(q5, .inl (ycA E 10, 4, .inl (fun _ => 0)))]) ++ [(q6, .inl (ycA E 10, 4, .inl (fun _ => 0)))]) ++ [(q7, .inl (ycA E 10, 80, .inl (fun _ => 0)))]) ++ [(q8, .inl (ycA E 10, 80, .inl (fun _ => 0)))]) ++ [(q9, .inl (ycA E 10, 80, .inl (fun _ => 0)))])) (ty := .array .int) zF_Told_sizes.1 0 rfl (by decide +kernel) rfl rfl (by decide) kw_1_85 dX8_init_77 rfl ?_
  refine yw_aload_n hC dX8_init_80 rfl 0 rfl ?_
  refine yw_sipush hC (v := 200) dX8_init_81 (by decide) ?_
  refine yw_newa hC (atype := .int) (ty := .int) (t0 := 0) (c0 := ycA E 10) (N := 200) kw_1_125 rfl rfl yo_int (fun _ => rfl) (by decide) (by decide) (by decide) (Nat.le_of_ble_eq_true rfl) (Nat.le_of_ble_eq_true rfl) dX8_init_84 (fun q10 => ?_)
  refine yw_putF hC (hIn rfl) (ws' := (((((((((([(h0, .inr (7, [.int 0, .int 0, .ref q1, .ref q2, .ref q3, .ref q4, .ref q5, .ref q6, .int 0, .int 0, .int 99, .int 0, .ref q7, .ref q8, .ref q9, .int 0, .ref q10]))] ++ [(q1, .inl (ycA E 10, 10, .inl (fun _ => 0)))]) ++ [(q2, .inl (ycA E 10, 10, .inl (fun _ => 0)))]) ++ [(q3, .inl (ycA E 10, 10, .inl (fun _ => 0)))]) ++ [(q4, .inl (ycA E 10, 10, .inl (fun _ => 0)))]) ++ [(q5, .inl (ycA E 10, 4, .inl (fun _ => 0)))]) ++ [(q6, .inl (ycA E 10, 4, .inl (fun _ => 0)))]) ++ [(q7, .inl (ycA E 10, 80, .inl (fun _ => 0)))]) ++ [(q8, .inl (ycA E 10, 80, .inl (fun _ => 0)))]) ++ [(q9, .inl (ycA E 10, 80, .inl (fun _ => 0)))]) ++ [(q10, .inl (ycA E 10, 200, .inl (fun _ => 0)))])) (ty := .array .int) zF_Told_numbers.1 0 rfl (by decide +kernel) rfl rfl (by decide) kw_1_88 dX8_init_86 rfl ?_
  exact yw_ret hC hR (fun i => [(h0), (q1), (q2), (q3), (q4), (q5), (q6), (q7), (q8), (q9), (q10)].getD i 0) rfl dX8_init_89
theorem dX7_init_0 : decode cX7_init 0 = .ok (.aload_n 0, 1) := by decide +kernel
theorem dX7_init_1 : decode cX7_init 1 = .ok (.invokespecial 3, 3) := by decide +kernel
theorem dX7_init_4 : decode cX7_init 4 = .ok (.aload_n 0, 1) := by decide +kernel
theorem dX7_init_5 : decode cX7_init 5 = .ok (.bipush (-2), 2) := by decide +kernel
theorem dX7_init_7 : decode cX7_init 7 = .ok (.putfield 9, 3) := by decide +kernel
theorem dX7_init_10 : decode cX7_init 10 = .ok (.aload_n 0, 1) := by decide +kernel
theorem dX7_init_11 : decode cX7_init 11 = .ok (.bipush 99, 2) := by decide +kernel
theorem dX7_init_13 : decode cX7_init 13 = .ok (.putfield 15, 3) := by decide +kernel
theorem dX7_init_16 : decode cX7_init 16 = .ok (.aload_n 0, 1) := by decide +kernel
theorem dX7_init_17 : decode cX7_init 17 = .ok (.bipush 10, 2) := by decide +kernel
theorem dX7_init_19 : decode cX7_init 19 = .ok (.newarray .int, 2) := by decide +kernel
theorem dX7_init_21 : decode cX7_init 21 = .ok (.putfield 18, 3) := by decide +kernel
theorem dX7_init_24 : decode cX7_init 24 = .ok (.return_, 1) := by decide +kernel
set_option maxHeartbeats 8000000 in
set_option maxRecDepth 100000 in
theorem yc_Standing {l : Launch} {D : va_G} {cA : Nat → ClassId} {h0 : Nat} : YCt l D cA yX7_init cX7_init 1 1 1 10 h0 [(h0, .inr (6, [.int 0, .int 0, .int 0, .int 0, .int 0, .int 0, .int 0, .int 0, .int 0, .int 0, .int 0, .null]))] (yp_Standing cA h0) := by
  refine yct (by decide +kernel) (by decide) (fun E hl hD hcA hN hIn hC hR => ?_)
  subst hl; subst hD; subst hcA
  refine yw_aload_n hC dX7_init_0 rfl 0 rfl ?_
  refine yw_obj hC (by decide) dX7_init_1 kw_1_131 kw_1_26 kw_1_27 ?_
  refine yw_aload_n hC dX7_init_4 rfl 0 rfl ?_
  refine yw_bipush hC (v := -2) dX7_init_5 (by decide) ?_
  refine yw_put hC (ws' := [(h0, .inr (6, [.int 0, .int 0, .int (-2), .int 0, .int 0, .int 0, .int 0, .int 0, .int 0, .int 0, .int 0, .null]))]) (ty := .int) zF_Standing_sentDay.1 0 rfl (by decide +kernel) rfl rfl (by decide) kw_1_137 dX7_init_7 rfl ?_
  refine yw_aload_n hC dX7_init_10 rfl 0 rfl ?_
  refine yw_bipush hC (v := 99) dX7_init_11 (by decide) ?_
  refine yw_put hC (ws' := [(h0, .inr (6, [.int 0, .int 0, .int (-2), .int 0, .int 0, .int 0, .int 0, .int 0, .int 0, .int 0, .int 99, .null]))]) (ty := .int) zF_Standing_periodTo.1 0 rfl (by decide +kernel) rfl rfl (by decide) kw_1_165 dX7_init_13 rfl ?_
  refine yw_aload_n hC dX7_init_16 rfl 0 rfl ?_
  refine yw_bipush hC (v := 10) dX7_init_17 (by decide) ?_
  refine yw_newa hC (atype := .int) (ty := .int) (t0 := 0) (c0 := ycA E 10) (N := 10) kw_1_125 rfl rfl yo_int (fun _ => rfl) (by decide) (by decide) (by decide) (Nat.le_of_ble_eq_true rfl) (Nat.le_of_ble_eq_true rfl) dX7_init_19 (fun q1 => ?_)
  refine yw_putF hC (hIn rfl) (ws' := ([(h0, .inr (6, [.int 0, .int 0, .int (-2), .int 0, .int 0, .int 0, .int 0, .int 0, .int 0, .int 0, .int 99, .ref q1]))] ++ [(q1, .inl (ycA E 10, 10, .inl (fun _ => 0)))])) (ty := .array .int) zF_Standing_foes.1 0 rfl (by decide +kernel) rfl rfl (by decide) kw_1_168 dX7_init_21 rfl ?_
  exact yw_ret hC hR (fun i => [(h0), (q1)].getD i 0) rfl dX7_init_24
theorem dX0_init_0 : decode cX0_init 0 = .ok (.aload_n 0, 1) := by decide +kernel
theorem dX0_init_1 : decode cX0_init 1 = .ok (.invokespecial 3, 3) := by decide +kernel
theorem dX0_init_4 : decode cX0_init 4 = .ok (.aload_n 0, 1) := by decide +kernel
theorem dX0_init_5 : decode cX0_init 5 = .ok (.bipush 12, 2) := by decide +kernel
theorem dX0_init_7 : decode cX0_init 7 = .ok (.anewarray 9, 3) := by decide +kernel
theorem dX0_init_10 : decode cX0_init 10 = .ok (.putfield 11, 3) := by decide +kernel
theorem dX0_init_13 : decode cX0_init 13 = .ok (.iconst 0, 1) := by decide +kernel
theorem dX0_init_14 : decode cX0_init 14 = .ok (.istore_n 1, 1) := by decide +kernel
theorem dX0_init_15 : decode cX0_init 15 = .ok (.iload_n 1, 1) := by decide +kernel
theorem dX0_init_16 : decode cX0_init 16 = .ok (.bipush 12, 2) := by decide +kernel
theorem dX0_init_18 : decode cX0_init 18 = .ok (.if_icmp .ge 22, 3) := by decide +kernel
theorem dX0_init_21 : decode cX0_init 21 = .ok (.aload_n 0, 1) := by decide +kernel
theorem dX0_init_22 : decode cX0_init 22 = .ok (.getfield 11, 3) := by decide +kernel
theorem dX0_init_25 : decode cX0_init 25 = .ok (.iload_n 1, 1) := by decide +kernel
theorem dX0_init_26 : decode cX0_init 26 = .ok (.new 9, 3) := by decide +kernel
theorem dX0_init_29 : decode cX0_init 29 = .ok (.dup, 1) := by decide +kernel
theorem dX0_init_30 : decode cX0_init 30 = .ok (.invokespecial 17, 3) := by decide +kernel
theorem dX0_init_33 : decode cX0_init 33 = .ok (.aastore, 1) := by decide +kernel
theorem dX0_init_34 : decode cX0_init 34 = .ok (.iinc 1 1, 3) := by decide +kernel
theorem dX0_init_37 : decode cX0_init 37 = .ok (.goto (-22), 3) := by decide +kernel
theorem dX0_init_40 : decode cX0_init 40 = .ok (.return_, 1) := by decide +kernel
set_option maxHeartbeats 8000000 in
set_option maxRecDepth 100000 in
theorem yc_Journal {l : Launch} {D : va_G} {cA : Nat → ClassId} {h0 : Nat} : YCt l D cA yX0_init cX0_init 2 2 25 276 h0 [(h0, .inr (0, [.null, .int 0, .int 0]))] (yp_Journal cA h0) := by
  refine yct (by decide +kernel) (by decide) (fun E hl hD hcA hN hIn hC hR => ?_)
  subst hl; subst hD; subst hcA
  refine yw_aload_n hC dX0_init_0 rfl 0 rfl ?_
  refine yw_obj hC (by decide) dX0_init_1 kw_1_202 kw_1_26 kw_1_27 ?_
  refine yw_aload_n hC dX0_init_4 rfl 0 rfl ?_
  refine yw_bipush hC (v := 12) dX0_init_5 (by decide) ?_
  refine yw_newq hC (N := 12) kw_1_203 (by decide) (by decide) (by decide) (Nat.le_of_ble_eq_true rfl) (Nat.le_of_ble_eq_true rfl) dX0_init_7 (fun q1 => ?_)
  refine yw_putF hC (hIn rfl) (ws' := ([(h0, .inr (0, [.ref q1, .int 0, .int 0]))] ++ [(q1, .inl (ycA E 13, 12, .inr (.inr (.inr (.inr (fun _ => none))))))])) (ty := .array (.object "ClassOfMany$Standing")) zF_Journal_kept.1 0 rfl (by decide +kernel) rfl rfl (by decide) kw_1_206 dX0_init_10 rfl ?_
  refine yw_iconst hC (v := 0) dX0_init_13 (by decide) ?_
  refine yw_istore_n hC (lv' := [(1, .int 0), (0, .ref h0)]) dX0_init_14 rfl hN (by decide) rfl ?_
  refine yw_iload_n hC dX0_init_15 rfl 0 rfl ?_
  refine yw_bipush hC (v := 12) dX0_init_16 (by decide) ?_
  refine yw_icmp_ge hC 40 dX0_init_18 (by decide) (fun h => absurd h (by decide)) (fun _ => ?_)
  refine yw_aload_n hC dX0_init_21 rfl 1 rfl ?_
  refine yw_get hC (v := .ref q1) zF_Journal_kept.1 0 rfl rfl kw_1_206 dX0_init_22 ?_
  refine yw_iload_n hC dX0_init_25 rfl 0 rfl ?_
  refine yw_new hC (ci := 6) (N := 12) (T := TX7) (C := "ClassOfMany$Standing") (fs := [.int 0, .int 0, .int 0, .int 0, .int 0, .int 0, .int 0, .int 0, .int 0, .int 0, .int 0, .null]) rfl tyX7 tyX7_ok (fun j hj => by match j, hj with | 0, _ => rfl | 1, _ => rfl | 2, _ => rfl | 3, _ => rfl | 4, _ => rfl | 5, _ => rfl | 6, _ => rfl | 7, _ => rfl | 8, _ => rfl | 9, _ => rfl | 10, _ => rfl | 11, _ => rfl | k + 12, h => exact absurd h (by omega)) kw_1_203 kw_1_127 kw_1_3 (Nat.le_of_ble_eq_true rfl) (Nat.le_of_ble_eq_true rfl) dX0_init_26 (fun q2 => ?_)
  refine yw_dup hC dX0_init_29 rfl ?_
  refine yw_callN hC (yc_Standing (h0 := q2)) kw_1_130 kw_1_3 (by decide +kernel) kw_1_129 rfl (by decide +kernel) (by decide) (by decide) (Nat.le_of_ble_eq_true rfl) dX0_init_30 (Nat.le_of_ble_eq_true rfl) (Nat.le_of_ble_eq_true rfl) (fun u3 => ?_)
  refine yw_aast hC (ws' := (([(h0, .inr (0, [.ref q1, .int 0, .int 0]))] ++ [(q1, .inl (ycA E 13, 12, .inr (.inr (.inr (.inr (va_up (fun _ => none) 0 (some q2)))))))]) ++ yp_Standing (ycA E) q2 u3)) (N := 12) (T := TX7) (ci := 6) 1 2 rfl rfl rfl (vp_in_nI (n := 0) (by decide) (by decide)) dX0_init_33 rfl ?_
  refine yw_iinc hC (lv' := [(1, .int 1), (0, .ref h0)]) dX0_init_34 0 rfl (by decide) hN (by decide) rfl ?_
  refine yw_goto hC 15 dX0_init_37 (by decide) ?_
  refine yw_iload_n hC dX0_init_15 rfl 0 rfl ?_
  refine yw_bipush hC (v := 12) dX0_init_16 (by decide) ?_
  refine yw_icmp_ge hC 40 dX0_init_18 (by decide) (fun h => absurd h (by decide)) (fun _ => ?_)
  refine yw_aload_n hC dX0_init_21 rfl 1 rfl ?_
  refine yw_get hC (v := .ref q1) zF_Journal_kept.1 0 rfl rfl kw_1_206 dX0_init_22 ?_
  refine yw_iload_n hC dX0_init_25 rfl 0 rfl ?_
  refine yw_new hC (ci := 6) (N := 12) (T := TX7) (C := "ClassOfMany$Standing") (fs := [.int 0, .int 0, .int 0, .int 0, .int 0, .int 0, .int 0, .int 0, .int 0, .int 0, .int 0, .null]) rfl tyX7 tyX7_ok (fun j hj => by match j, hj with | 0, _ => rfl | 1, _ => rfl | 2, _ => rfl | 3, _ => rfl | 4, _ => rfl | 5, _ => rfl | 6, _ => rfl | 7, _ => rfl | 8, _ => rfl | 9, _ => rfl | 10, _ => rfl | 11, _ => rfl | k + 12, h => exact absurd h (by omega)) kw_1_203 kw_1_127 kw_1_3 (Nat.le_of_ble_eq_true rfl) (Nat.le_of_ble_eq_true rfl) dX0_init_26 (fun q4 => ?_)
  refine yw_dup hC dX0_init_29 rfl ?_
  refine yw_callN hC (yc_Standing (h0 := q4)) kw_1_130 kw_1_3 (by decide +kernel) kw_1_129 rfl (by decide +kernel) (by decide) (by decide) (Nat.le_of_ble_eq_true rfl) dX0_init_30 (Nat.le_of_ble_eq_true rfl) (Nat.le_of_ble_eq_true rfl) (fun u5 => ?_)
  refine yw_aast hC (ws' := ((([(h0, .inr (0, [.ref q1, .int 0, .int 0]))] ++ [(q1, .inl (ycA E 13, 12, .inr (.inr (.inr (.inr (va_up (va_up (fun _ => none) 0 (some q2)) 1 (some q4)))))))]) ++ yp_Standing (ycA E) q2 u3) ++ yp_Standing (ycA E) q4 u5)) (N := 12) (T := TX7) (ci := 6) 1 4 rfl rfl rfl (vp_in_nI (n := 1) (by decide) (by decide)) dX0_init_33 rfl ?_
  refine yw_iinc hC (lv' := [(1, .int 2), (0, .ref h0)]) dX0_init_34 0 rfl (by decide) hN (by decide) rfl ?_
  refine yw_goto hC 15 dX0_init_37 (by decide) ?_
  refine yw_iload_n hC dX0_init_15 rfl 0 rfl ?_
  refine yw_bipush hC (v := 12) dX0_init_16 (by decide) ?_
  refine yw_icmp_ge hC 40 dX0_init_18 (by decide) (fun h => absurd h (by decide)) (fun _ => ?_)
  refine yw_aload_n hC dX0_init_21 rfl 1 rfl ?_
  refine yw_get hC (v := .ref q1) zF_Journal_kept.1 0 rfl rfl kw_1_206 dX0_init_22 ?_
  refine yw_iload_n hC dX0_init_25 rfl 0 rfl ?_
  refine yw_new hC (ci := 6) (N := 12) (T := TX7) (C := "ClassOfMany$Standing") (fs := [.int 0, .int 0, .int 0, .int 0, .int 0, .int 0, .int 0, .int 0, .int 0, .int 0, .int 0, .null]) rfl tyX7 tyX7_ok (fun j hj => by match j, hj with | 0, _ => rfl | 1, _ => rfl | 2, _ => rfl | 3, _ => rfl | 4, _ => rfl | 5, _ => rfl | 6, _ => rfl | 7, _ => rfl | 8, _ => rfl | 9, _ => rfl | 10, _ => rfl | 11, _ => rfl | k + 12, h => exact absurd h (by omega)) kw_1_203 kw_1_127 kw_1_3 (Nat.le_of_ble_eq_true rfl) (Nat.le_of_ble_eq_true rfl) dX0_init_26 (fun q6 => ?_)
  refine yw_dup hC dX0_init_29 rfl ?_
  refine yw_callN hC (yc_Standing (h0 := q6)) kw_1_130 kw_1_3 (by decide +kernel) kw_1_129 rfl (by decide +kernel) (by decide) (by decide) (Nat.le_of_ble_eq_true rfl) dX0_init_30 (Nat.le_of_ble_eq_true rfl) (Nat.le_of_ble_eq_true rfl) (fun u7 => ?_)
  refine yw_aast hC (ws' := (((([(h0, .inr (0, [.ref q1, .int 0, .int 0]))] ++ [(q1, .inl (ycA E 13, 12, .inr (.inr (.inr (.inr (va_up (va_up (va_up (fun _ => none) 0 (some q2)) 1 (some q4)) 2 (some q6)))))))]) ++ yp_Standing (ycA E) q2 u3) ++ yp_Standing (ycA E) q4 u5) ++ yp_Standing (ycA E) q6 u7)) (N := 12) (T := TX7) (ci := 6) 1 6 rfl rfl rfl (vp_in_nI (n := 2) (by decide) (by decide)) dX0_init_33 rfl ?_
  refine yw_iinc hC (lv' := [(1, .int 3), (0, .ref h0)]) dX0_init_34 0 rfl (by decide) hN (by decide) rfl ?_
  refine yw_goto hC 15 dX0_init_37 (by decide) ?_
  refine yw_iload_n hC dX0_init_15 rfl 0 rfl ?_
  refine yw_bipush hC (v := 12) dX0_init_16 (by decide) ?_
  refine yw_icmp_ge hC 40 dX0_init_18 (by decide) (fun h => absurd h (by decide)) (fun _ => ?_)
  refine yw_aload_n hC dX0_init_21 rfl 1 rfl ?_
  refine yw_get hC (v := .ref q1) zF_Journal_kept.1 0 rfl rfl kw_1_206 dX0_init_22 ?_
  refine yw_iload_n hC dX0_init_25 rfl 0 rfl ?_
  refine yw_new hC (ci := 6) (N := 12) (T := TX7) (C := "ClassOfMany$Standing") (fs := [.int 0, .int 0, .int 0, .int 0, .int 0, .int 0, .int 0, .int 0, .int 0, .int 0, .int 0, .null]) rfl tyX7 tyX7_ok (fun j hj => by match j, hj with | 0, _ => rfl | 1, _ => rfl | 2, _ => rfl | 3, _ => rfl | 4, _ => rfl | 5, _ => rfl | 6, _ => rfl | 7, _ => rfl | 8, _ => rfl | 9, _ => rfl | 10, _ => rfl | 11, _ => rfl | k + 12, h => exact absurd h (by omega)) kw_1_203 kw_1_127 kw_1_3 (Nat.le_of_ble_eq_true rfl) (Nat.le_of_ble_eq_true rfl) dX0_init_26 (fun q8 => ?_)
  refine yw_dup hC dX0_init_29 rfl ?_
  refine yw_callN hC (yc_Standing (h0 := q8)) kw_1_130 kw_1_3 (by decide +kernel) kw_1_129 rfl (by decide +kernel) (by decide) (by decide) (Nat.le_of_ble_eq_true rfl) dX0_init_30 (Nat.le_of_ble_eq_true rfl) (Nat.le_of_ble_eq_true rfl) (fun u9 => ?_)
  refine yw_aast hC (ws' := ((((([(h0, .inr (0, [.ref q1, .int 0, .int 0]))] ++ [(q1, .inl (ycA E 13, 12, .inr (.inr (.inr (.inr (va_up (va_up (va_up (va_up (fun _ => none) 0 (some q2)) 1 (some q4)) 2 (some q6)) 3 (some q8)))))))]) ++ yp_Standing (ycA E) q2 u3) ++ yp_Standing (ycA E) q4 u5) ++ yp_Standing (ycA E) q6 u7) ++ yp_Standing (ycA E) q8 u9)) (N := 12) (T := TX7) (ci := 6) 1 8 rfl rfl rfl (vp_in_nI (n := 3) (by decide) (by decide)) dX0_init_33 rfl ?_
  refine yw_iinc hC (lv' := [(1, .int 4), (0, .ref h0)]) dX0_init_34 0 rfl (by decide) hN (by decide) rfl ?_
  refine yw_goto hC 15 dX0_init_37 (by decide) ?_
  refine yw_iload_n hC dX0_init_15 rfl 0 rfl ?_
  refine yw_bipush hC (v := 12) dX0_init_16 (by decide) ?_
  refine yw_icmp_ge hC 40 dX0_init_18 (by decide) (fun h => absurd h (by decide)) (fun _ => ?_)
  refine yw_aload_n hC dX0_init_21 rfl 1 rfl ?_
  refine yw_get hC (v := .ref q1) zF_Journal_kept.1 0 rfl rfl kw_1_206 dX0_init_22 ?_
  refine yw_iload_n hC dX0_init_25 rfl 0 rfl ?_
  refine yw_new hC (ci := 6) (N := 12) (T := TX7) (C := "ClassOfMany$Standing") (fs := [.int 0, .int 0, .int 0, .int 0, .int 0, .int 0, .int 0, .int 0, .int 0, .int 0, .int 0, .null]) rfl tyX7 tyX7_ok (fun j hj => by match j, hj with | 0, _ => rfl | 1, _ => rfl | 2, _ => rfl | 3, _ => rfl | 4, _ => rfl | 5, _ => rfl | 6, _ => rfl | 7, _ => rfl | 8, _ => rfl | 9, _ => rfl | 10, _ => rfl | 11, _ => rfl | k + 12, h => exact absurd h (by omega)) kw_1_203 kw_1_127 kw_1_3 (Nat.le_of_ble_eq_true rfl) (Nat.le_of_ble_eq_true rfl) dX0_init_26 (fun q10 => ?_)
  refine yw_dup hC dX0_init_29 rfl ?_
  refine yw_callN hC (yc_Standing (h0 := q10)) kw_1_130 kw_1_3 (by decide +kernel) kw_1_129 rfl (by decide +kernel) (by decide) (by decide) (Nat.le_of_ble_eq_true rfl) dX0_init_30 (Nat.le_of_ble_eq_true rfl) (Nat.le_of_ble_eq_true rfl) (fun u11 => ?_)
  refine yw_aast hC (ws' := (((((([(h0, .inr (0, [.ref q1, .int 0, .int 0]))] ++ [(q1, .inl (ycA E 13, 12, .inr (.inr (.inr (.inr (va_up (va_up (va_up (va_up (va_up (fun _ => none) 0 (some q2)) 1 (some q4)) 2 (some q6)) 3 (some q8)) 4 (some q10)))))))]) ++ yp_Standing (ycA E) q2 u3) ++ yp_Standing (ycA E) q4 u5) ++ yp_Standing (ycA E) q6 u7) ++ yp_Standing (ycA E) q8 u9) ++ yp_Standing (ycA E) q10 u11)) (N := 12) (T := TX7) (ci := 6) 1 10 rfl rfl rfl (vp_in_nI (n := 4) (by decide) (by decide)) dX0_init_33 rfl ?_
  refine yw_iinc hC (lv' := [(1, .int 5), (0, .ref h0)]) dX0_init_34 0 rfl (by decide) hN (by decide) rfl ?_
  refine yw_goto hC 15 dX0_init_37 (by decide) ?_
  refine yw_iload_n hC dX0_init_15 rfl 0 rfl ?_
  refine yw_bipush hC (v := 12) dX0_init_16 (by decide) ?_
  refine yw_icmp_ge hC 40 dX0_init_18 (by decide) (fun h => absurd h (by decide)) (fun _ => ?_)
  refine yw_aload_n hC dX0_init_21 rfl 1 rfl ?_
  refine yw_get hC (v := .ref q1) zF_Journal_kept.1 0 rfl rfl kw_1_206 dX0_init_22 ?_
  refine yw_iload_n hC dX0_init_25 rfl 0 rfl ?_
  refine yw_new hC (ci := 6) (N := 12) (T := TX7) (C := "ClassOfMany$Standing") (fs := [.int 0, .int 0, .int 0, .int 0, .int 0, .int 0, .int 0, .int 0, .int 0, .int 0, .int 0, .null]) rfl tyX7 tyX7_ok (fun j hj => by match j, hj with | 0, _ => rfl | 1, _ => rfl | 2, _ => rfl | 3, _ => rfl | 4, _ => rfl | 5, _ => rfl | 6, _ => rfl | 7, _ => rfl | 8, _ => rfl | 9, _ => rfl | 10, _ => rfl | 11, _ => rfl | k + 12, h => exact absurd h (by omega)) kw_1_203 kw_1_127 kw_1_3 (Nat.le_of_ble_eq_true rfl) (Nat.le_of_ble_eq_true rfl) dX0_init_26 (fun q12 => ?_)
  refine yw_dup hC dX0_init_29 rfl ?_
  refine yw_callN hC (yc_Standing (h0 := q12)) kw_1_130 kw_1_3 (by decide +kernel) kw_1_129 rfl (by decide +kernel) (by decide) (by decide) (Nat.le_of_ble_eq_true rfl) dX0_init_30 (Nat.le_of_ble_eq_true rfl) (Nat.le_of_ble_eq_true rfl) (fun u13 => ?_)
  refine yw_aast hC (ws' := ((((((([(h0, .inr (0, [.ref q1, .int 0, .int 0]))] ++ [(q1, .inl (ycA E 13, 12, .inr (.inr (.inr (.inr (va_up (va_up (va_up (va_up (va_up (va_up (fun _ => none) 0 (some q2)) 1 (some q4)) 2 (some q6)) 3 (some q8)) 4 (some q10)) 5 (some q12)))))))]) ++ yp_Standing (ycA E) q2 u3) ++ yp_Standing (ycA E) q4 u5) ++ yp_Standing (ycA E) q6 u7) ++ yp_Standing (ycA E) q8 u9) ++ yp_Standing (ycA E) q10 u11) ++ yp_Standing (ycA E) q12 u13)) (N := 12) (T := TX7) (ci := 6) 1 12 rfl rfl rfl (vp_in_nI (n := 5) (by decide) (by decide)) dX0_init_33 rfl ?_
  refine yw_iinc hC (lv' := [(1, .int 6), (0, .ref h0)]) dX0_init_34 0 rfl (by decide) hN (by decide) rfl ?_
  refine yw_goto hC 15 dX0_init_37 (by decide) ?_
  refine yw_iload_n hC dX0_init_15 rfl 0 rfl ?_
  refine yw_bipush hC (v := 12) dX0_init_16 (by decide) ?_
  refine yw_icmp_ge hC 40 dX0_init_18 (by decide) (fun h => absurd h (by decide)) (fun _ => ?_)
  refine yw_aload_n hC dX0_init_21 rfl 1 rfl ?_
  refine yw_get hC (v := .ref q1) zF_Journal_kept.1 0 rfl rfl kw_1_206 dX0_init_22 ?_
  refine yw_iload_n hC dX0_init_25 rfl 0 rfl ?_
  refine yw_new hC (ci := 6) (N := 12) (T := TX7) (C := "ClassOfMany$Standing") (fs := [.int 0, .int 0, .int 0, .int 0, .int 0, .int 0, .int 0, .int 0, .int 0, .int 0, .int 0, .null]) rfl tyX7 tyX7_ok (fun j hj => by match j, hj with | 0, _ => rfl | 1, _ => rfl | 2, _ => rfl | 3, _ => rfl | 4, _ => rfl | 5, _ => rfl | 6, _ => rfl | 7, _ => rfl | 8, _ => rfl | 9, _ => rfl | 10, _ => rfl | 11, _ => rfl | k + 12, h => exact absurd h (by omega)) kw_1_203 kw_1_127 kw_1_3 (Nat.le_of_ble_eq_true rfl) (Nat.le_of_ble_eq_true rfl) dX0_init_26 (fun q14 => ?_)
  refine yw_dup hC dX0_init_29 rfl ?_
  refine yw_callN hC (yc_Standing (h0 := q14)) kw_1_130 kw_1_3 (by decide +kernel) kw_1_129 rfl (by decide +kernel) (by decide) (by decide) (Nat.le_of_ble_eq_true rfl) dX0_init_30 (Nat.le_of_ble_eq_true rfl) (Nat.le_of_ble_eq_true rfl) (fun u15 => ?_)
  refine yw_aast hC (ws' := (((((((([(h0, .inr (0, [.ref q1, .int 0, .int 0]))] ++ [(q1, .inl (ycA E 13, 12, .inr (.inr (.inr (.inr (va_up (va_up (va_up (va_up (va_up (va_up (va_up (fun _ => none) 0 (some q2)) 1 (some q4)) 2 (some q6)) 3 (some q8)) 4 (some q10)) 5 (some q12)) 6 (some q14)))))))]) ++ yp_Standing (ycA E) q2 u3) ++ yp_Standing (ycA E) q4 u5) ++ yp_Standing (ycA E) q6 u7) ++ yp_Standing (ycA E) q8 u9) ++ yp_Standing (ycA E) q10 u11) ++ yp_Standing (ycA E) q12 u13) ++ yp_Standing (ycA E) q14 u15)) (N := 12) (T := TX7) (ci := 6) 1 14 rfl rfl rfl (vp_in_nI (n := 6) (by decide) (by decide)) dX0_init_33 rfl ?_
  refine yw_iinc hC (lv' := [(1, .int 7), (0, .ref h0)]) dX0_init_34 0 rfl (by decide) hN (by decide) rfl ?_
  refine yw_goto hC 15 dX0_init_37 (by decide) ?_
  refine yw_iload_n hC dX0_init_15 rfl 0 rfl ?_
  refine yw_bipush hC (v := 12) dX0_init_16 (by decide) ?_
  refine yw_icmp_ge hC 40 dX0_init_18 (by decide) (fun h => absurd h (by decide)) (fun _ => ?_)
  refine yw_aload_n hC dX0_init_21 rfl 1 rfl ?_
  refine yw_get hC (v := .ref q1) zF_Journal_kept.1 0 rfl rfl kw_1_206 dX0_init_22 ?_
  refine yw_iload_n hC dX0_init_25 rfl 0 rfl ?_
  refine yw_new hC (ci := 6) (N := 12) (T := TX7) (C := "ClassOfMany$Standing") (fs := [.int 0, .int 0, .int 0, .int 0, .int 0, .int 0, .int 0, .int 0, .int 0, .int 0, .int 0, .null]) rfl tyX7 tyX7_ok (fun j hj => by match j, hj with | 0, _ => rfl | 1, _ => rfl | 2, _ => rfl | 3, _ => rfl | 4, _ => rfl | 5, _ => rfl | 6, _ => rfl | 7, _ => rfl | 8, _ => rfl | 9, _ => rfl | 10, _ => rfl | 11, _ => rfl | k + 12, h => exact absurd h (by omega)) kw_1_203 kw_1_127 kw_1_3 (Nat.le_of_ble_eq_true rfl) (Nat.le_of_ble_eq_true rfl) dX0_init_26 (fun q16 => ?_)
  refine yw_dup hC dX0_init_29 rfl ?_
  refine yw_callN hC (yc_Standing (h0 := q16)) kw_1_130 kw_1_3 (by decide +kernel) kw_1_129 rfl (by decide +kernel) (by decide) (by decide) (Nat.le_of_ble_eq_true rfl) dX0_init_30 (Nat.le_of_ble_eq_true rfl) (Nat.le_of_ble_eq_true rfl) (fun u17 => ?_)
  refine yw_aast hC (ws' := ((((((((([(h0, .inr (0, [.ref q1, .int 0, .int 0]))] ++ [(q1, .inl (ycA E 13, 12, .inr (.inr (.inr (.inr (va_up (va_up (va_up (va_up (va_up (va_up (va_up (va_up (fun _ => none) 0 (some q2)) 1 (some q4)) 2 (some q6)) 3 (some q8)) 4 (some q10)) 5 (some q12)) 6 (some q14)) 7 (some q16)))))))]) ++ yp_Standing (ycA E) q2 u3) ++ yp_Standing (ycA E) q4 u5) ++ yp_Standing (ycA E) q6 u7) ++ yp_Standing (ycA E) q8 u9) ++ yp_Standing (ycA E) q10 u11) ++ yp_Standing (ycA E) q12 u13) ++ yp_Standing (ycA E) q14 u15) ++ yp_Standing (ycA E) q16 u17)) (N := 12) (T := TX7) (ci := 6) 1 16 rfl rfl rfl (vp_in_nI (n := 7) (by decide) (by decide)) dX0_init_33 rfl ?_
  refine yw_iinc hC (lv' := [(1, .int 8), (0, .ref h0)]) dX0_init_34 0 rfl (by decide) hN (by decide) rfl ?_
  refine yw_goto hC 15 dX0_init_37 (by decide) ?_
  refine yw_iload_n hC dX0_init_15 rfl 0 rfl ?_
  refine yw_bipush hC (v := 12) dX0_init_16 (by decide) ?_
  refine yw_icmp_ge hC 40 dX0_init_18 (by decide) (fun h => absurd h (by decide)) (fun _ => ?_)
  refine yw_aload_n hC dX0_init_21 rfl 1 rfl ?_
  refine yw_get hC (v := .ref q1) zF_Journal_kept.1 0 rfl rfl kw_1_206 dX0_init_22 ?_
  refine yw_iload_n hC dX0_init_25 rfl 0 rfl ?_
  refine yw_new hC (ci := 6) (N := 12) (T := TX7) (C := "ClassOfMany$Standing") (fs := [.int 0, .int 0, .int 0, .int 0, .int 0, .int 0, .int 0, .int 0, .int 0, .int 0, .int 0, .null]) rfl tyX7 tyX7_ok (fun j hj => by match j, hj with | 0, _ => rfl | 1, _ => rfl | 2, _ => rfl | 3, _ => rfl | 4, _ => rfl | 5, _ => rfl | 6, _ => rfl | 7, _ => rfl | 8, _ => rfl | 9, _ => rfl | 10, _ => rfl | 11, _ => rfl | k + 12, h => exact absurd h (by omega)) kw_1_203 kw_1_127 kw_1_3 (Nat.le_of_ble_eq_true rfl) (Nat.le_of_ble_eq_true rfl) dX0_init_26 (fun q18 => ?_)
  refine yw_dup hC dX0_init_29 rfl ?_
  refine yw_callN hC (yc_Standing (h0 := q18)) kw_1_130 kw_1_3 (by decide +kernel) kw_1_129 rfl (by decide +kernel) (by decide) (by decide) (Nat.le_of_ble_eq_true rfl) dX0_init_30 (Nat.le_of_ble_eq_true rfl) (Nat.le_of_ble_eq_true rfl) (fun u19 => ?_)
  refine yw_aast hC (ws' := (((((((((([(h0, .inr (0, [.ref q1, .int 0, .int 0]))] ++ [(q1, .inl (ycA E 13, 12, .inr (.inr (.inr (.inr (va_up (va_up (va_up (va_up (va_up (va_up (va_up (va_up (va_up (fun _ => none) 0 (some q2)) 1 (some q4)) 2 (some q6)) 3 (some q8)) 4 (some q10)) 5 (some q12)) 6 (some q14)) 7 (some q16)) 8 (some q18)))))))]) ++ yp_Standing (ycA E) q2 u3) ++ yp_Standing (ycA E) q4 u5) ++ yp_Standing (ycA E) q6 u7) ++ yp_Standing (ycA E) q8 u9) ++ yp_Standing (ycA E) q10 u11) ++ yp_Standing (ycA E) q12 u13) ++ yp_Standing (ycA E) q14 u15) ++ yp_Standing (ycA E) q16 u17) ++ yp_Standing (ycA E) q18 u19)) (N := 12) (T := TX7) (ci := 6) 1 18 rfl rfl rfl (vp_in_nI (n := 8) (by decide) (by decide)) dX0_init_33 rfl ?_
  refine yw_iinc hC (lv' := [(1, .int 9), (0, .ref h0)]) dX0_init_34 0 rfl (by decide) hN (by decide) rfl ?_
  refine yw_goto hC 15 dX0_init_37 (by decide) ?_
  refine yw_iload_n hC dX0_init_15 rfl 0 rfl ?_
  refine yw_bipush hC (v := 12) dX0_init_16 (by decide) ?_
  refine yw_icmp_ge hC 40 dX0_init_18 (by decide) (fun h => absurd h (by decide)) (fun _ => ?_)
  refine yw_aload_n hC dX0_init_21 rfl 1 rfl ?_
  refine yw_get hC (v := .ref q1) zF_Journal_kept.1 0 rfl rfl kw_1_206 dX0_init_22 ?_
  refine yw_iload_n hC dX0_init_25 rfl 0 rfl ?_
  refine yw_new hC (ci := 6) (N := 12) (T := TX7) (C := "ClassOfMany$Standing") (fs := [.int 0, .int 0, .int 0, .int 0, .int 0, .int 0, .int 0, .int 0, .int 0, .int 0, .int 0, .null]) rfl tyX7 tyX7_ok (fun j hj => by match j, hj with | 0, _ => rfl | 1, _ => rfl | 2, _ => rfl | 3, _ => rfl | 4, _ => rfl | 5, _ => rfl | 6, _ => rfl | 7, _ => rfl | 8, _ => rfl | 9, _ => rfl | 10, _ => rfl | 11, _ => rfl | k + 12, h => exact absurd h (by omega)) kw_1_203 kw_1_127 kw_1_3 (Nat.le_of_ble_eq_true rfl) (Nat.le_of_ble_eq_true rfl) dX0_init_26 (fun q20 => ?_)
  refine yw_dup hC dX0_init_29 rfl ?_
  refine yw_callN hC (yc_Standing (h0 := q20)) kw_1_130 kw_1_3 (by decide +kernel) kw_1_129 rfl (by decide +kernel) (by decide) (by decide) (Nat.le_of_ble_eq_true rfl) dX0_init_30 (Nat.le_of_ble_eq_true rfl) (Nat.le_of_ble_eq_true rfl) (fun u21 => ?_)
  refine yw_aast hC (ws' := ((((((((((([(h0, .inr (0, [.ref q1, .int 0, .int 0]))] ++ [(q1, .inl (ycA E 13, 12, .inr (.inr (.inr (.inr (va_up (va_up (va_up (va_up (va_up (va_up (va_up (va_up (va_up (va_up (fun _ => none) 0 (some q2)) 1 (some q4)) 2 (some q6)) 3 (some q8)) 4 (some q10)) 5 (some q12)) 6 (some q14)) 7 (some q16)) 8 (some q18)) 9 (some q20)))))))]) ++ yp_Standing (ycA E) q2 u3) ++ yp_Standing (ycA E) q4 u5) ++ yp_Standing (ycA E) q6 u7) ++ yp_Standing (ycA E) q8 u9) ++ yp_Standing (ycA E) q10 u11) ++ yp_Standing (ycA E) q12 u13) ++ yp_Standing (ycA E) q14 u15) ++ yp_Standing (ycA E) q16 u17) ++ yp_Standing (ycA E) q18 u19) ++ yp_Standing (ycA E) q20 u21)) (N := 12) (T := TX7) (ci := 6) 1 20 rfl rfl rfl (vp_in_nI (n := 9) (by decide) (by decide)) dX0_init_33 rfl ?_
  refine yw_iinc hC (lv' := [(1, .int 10), (0, .ref h0)]) dX0_init_34 0 rfl (by decide) hN (by decide) rfl ?_
  refine yw_goto hC 15 dX0_init_37 (by decide) ?_
  refine yw_iload_n hC dX0_init_15 rfl 0 rfl ?_
  refine yw_bipush hC (v := 12) dX0_init_16 (by decide) ?_
  refine yw_icmp_ge hC 40 dX0_init_18 (by decide) (fun h => absurd h (by decide)) (fun _ => ?_)
  refine yw_aload_n hC dX0_init_21 rfl 1 rfl ?_
  refine yw_get hC (v := .ref q1) zF_Journal_kept.1 0 rfl rfl kw_1_206 dX0_init_22 ?_
  refine yw_iload_n hC dX0_init_25 rfl 0 rfl ?_
  refine yw_new hC (ci := 6) (N := 12) (T := TX7) (C := "ClassOfMany$Standing") (fs := [.int 0, .int 0, .int 0, .int 0, .int 0, .int 0, .int 0, .int 0, .int 0, .int 0, .int 0, .null]) rfl tyX7 tyX7_ok (fun j hj => by match j, hj with | 0, _ => rfl | 1, _ => rfl | 2, _ => rfl | 3, _ => rfl | 4, _ => rfl | 5, _ => rfl | 6, _ => rfl | 7, _ => rfl | 8, _ => rfl | 9, _ => rfl | 10, _ => rfl | 11, _ => rfl | k + 12, h => exact absurd h (by omega)) kw_1_203 kw_1_127 kw_1_3 (Nat.le_of_ble_eq_true rfl) (Nat.le_of_ble_eq_true rfl) dX0_init_26 (fun q22 => ?_)
  refine yw_dup hC dX0_init_29 rfl ?_
  refine yw_callN hC (yc_Standing (h0 := q22)) kw_1_130 kw_1_3 (by decide +kernel) kw_1_129 rfl (by decide +kernel) (by decide) (by decide) (Nat.le_of_ble_eq_true rfl) dX0_init_30 (Nat.le_of_ble_eq_true rfl) (Nat.le_of_ble_eq_true rfl) (fun u23 => ?_)
  refine yw_aast hC (ws' := (((((((((((([(h0, .inr (0, [.ref q1, .int 0, .int 0]))] ++ [(q1, .inl (ycA E 13, 12, .inr (.inr (.inr (.inr (va_up (va_up (va_up (va_up (va_up (va_up (va_up (va_up (va_up (va_up (va_up (fun _ => none) 0 (some q2)) 1 (some q4)) 2 (some q6)) 3 (some q8)) 4 (some q10)) 5 (some q12)) 6 (some q14)) 7 (some q16)) 8 (some q18)) 9 (some q20)) 10 (some q22)))))))]) ++ yp_Standing (ycA E) q2 u3) ++ yp_Standing (ycA E) q4 u5) ++ yp_Standing (ycA E) q6 u7) ++ yp_Standing (ycA E) q8 u9) ++ yp_Standing (ycA E) q10 u11) ++ yp_Standing (ycA E) q12 u13) ++ yp_Standing (ycA E) q14 u15) ++ yp_Standing (ycA E) q16 u17) ++ yp_Standing (ycA E) q18 u19) ++ yp_Standing (ycA E) q20 u21) ++ yp_Standing (ycA E) q22 u23)) (N := 12) (T := TX7) (ci := 6) 1 22 rfl rfl rfl (vp_in_nI (n := 10) (by decide) (by decide)) dX0_init_33 rfl ?_
  refine yw_iinc hC (lv' := [(1, .int 11), (0, .ref h0)]) dX0_init_34 0 rfl (by decide) hN (by decide) rfl ?_
  refine yw_goto hC 15 dX0_init_37 (by decide) ?_
  refine yw_iload_n hC dX0_init_15 rfl 0 rfl ?_
  refine yw_bipush hC (v := 12) dX0_init_16 (by decide) ?_
  refine yw_icmp_ge hC 40 dX0_init_18 (by decide) (fun h => absurd h (by decide)) (fun _ => ?_)
  refine yw_aload_n hC dX0_init_21 rfl 1 rfl ?_
  refine yw_get hC (v := .ref q1) zF_Journal_kept.1 0 rfl rfl kw_1_206 dX0_init_22 ?_
  refine yw_iload_n hC dX0_init_25 rfl 0 rfl ?_
  refine yw_new hC (ci := 6) (N := 12) (T := TX7) (C := "ClassOfMany$Standing") (fs := [.int 0, .int 0, .int 0, .int 0, .int 0, .int 0, .int 0, .int 0, .int 0, .int 0, .int 0, .null]) rfl tyX7 tyX7_ok (fun j hj => by match j, hj with | 0, _ => rfl | 1, _ => rfl | 2, _ => rfl | 3, _ => rfl | 4, _ => rfl | 5, _ => rfl | 6, _ => rfl | 7, _ => rfl | 8, _ => rfl | 9, _ => rfl | 10, _ => rfl | 11, _ => rfl | k + 12, h => exact absurd h (by omega)) kw_1_203 kw_1_127 kw_1_3 (Nat.le_of_ble_eq_true rfl) (Nat.le_of_ble_eq_true rfl) dX0_init_26 (fun q24 => ?_)
  refine yw_dup hC dX0_init_29 rfl ?_
  refine yw_callN hC (yc_Standing (h0 := q24)) kw_1_130 kw_1_3 (by decide +kernel) kw_1_129 rfl (by decide +kernel) (by decide) (by decide) (Nat.le_of_ble_eq_true rfl) dX0_init_30 (Nat.le_of_ble_eq_true rfl) (Nat.le_of_ble_eq_true rfl) (fun u25 => ?_)
  refine yw_aast hC (ws' := ((((((((((((([(h0, .inr (0, [.ref q1, .int 0, .int 0]))] ++ [(q1, .inl (ycA E 13, 12, .inr (.inr (.inr (.inr (va_up (va_up (va_up (va_up (va_up (va_up (va_up (va_up (va_up (va_up (va_up (va_up (fun _ => none) 0 (some q2)) 1 (some q4)) 2 (some q6)) 3 (some q8)) 4 (some q10)) 5 (some q12)) 6 (some q14)) 7 (some q16)) 8 (some q18)) 9 (some q20)) 10 (some q22)) 11 (some q24)))))))]) ++ yp_Standing (ycA E) q2 u3) ++ yp_Standing (ycA E) q4 u5) ++ yp_Standing (ycA E) q6 u7) ++ yp_Standing (ycA E) q8 u9) ++ yp_Standing (ycA E) q10 u11) ++ yp_Standing (ycA E) q12 u13) ++ yp_Standing (ycA E) q14 u15) ++ yp_Standing (ycA E) q16 u17) ++ yp_Standing (ycA E) q18 u19) ++ yp_Standing (ycA E) q20 u21) ++ yp_Standing (ycA E) q22 u23) ++ yp_Standing (ycA E) q24 u25)) (N := 12) (T := TX7) (ci := 6) 1 24 rfl rfl rfl (vp_in_nI (n := 11) (by decide) (by decide)) dX0_init_33 rfl ?_
  refine yw_iinc hC (lv' := [(1, .int 12), (0, .ref h0)]) dX0_init_34 0 rfl (by decide) hN (by decide) rfl ?_
  refine yw_goto hC 15 dX0_init_37 (by decide) ?_
  refine yw_iload_n hC dX0_init_15 rfl 0 rfl ?_
  refine yw_bipush hC (v := 12) dX0_init_16 (by decide) ?_
  refine yw_icmp_ge hC 40 dX0_init_18 (by decide) (fun _ => ?_) (fun h => absurd (by decide) h)
  have hk : (va_up (va_up (va_up (va_up (va_up (va_up (va_up (va_up (va_up (va_up (va_up (va_up (fun _ => none) 0 (some q2)) 1 (some q4)) 2 (some q6)) 3 (some q8)) 4 (some q10)) 5 (some q12)) 6 (some q14)) 7 (some q16)) 8 (some q18)) 9 (some q20)) 10 (some q22)) 11 (some q24)) = (fun j => if j < 12 then some ([(h0), (q1), (q2), (u3 1), (q4), (u5 1), (q6), (u7 1), (q8), (u9 1), (q10), (u11 1), (q12), (u13 1), (q14), (u15 1), (q16), (u17 1), (q18), (u19 1), (q20), (u21 1), (q22), (u23 1), (q24), (u25 1)].getD (2 + 2 * j) 0) else none) := by
    funext j
    unfold va_up
    by_cases hj : j < 12
    · match j, hj with | 0, _ => rfl | 1, _ => rfl | 2, _ => rfl | 3, _ => rfl | 4, _ => rfl | 5, _ => rfl | 6, _ => rfl | 7, _ => rfl | 8, _ => rfl | 9, _ => rfl | 10, _ => rfl | 11, _ => rfl | k + 12, h => exact absurd h (by omega)
    · rw [if_neg hj]
      repeat (rw [if_neg (by omega)])
  rw [hk]
  exact yw_ret hC hR (fun i => [(h0), (q1), (q2), (u3 1), (q4), (u5 1), (q6), (u7 1), (q8), (u9 1), (q10), (u11 1), (q12), (u13 1), (q14), (u15 1), (q16), (u17 1), (q18), (u19 1), (q20), (u21 1), (q22), (u23 1), (q24), (u25 1)].getD i 0) rfl dX0_init_40
theorem dX4_init_0 : decode cX4_init 0 = .ok (.aload_n 0, 1) := by decide +kernel
theorem dX4_init_1 : decode cX4_init 1 = .ok (.invokespecial 3, 3) := by decide +kernel
theorem dX4_init_4 : decode cX4_init 4 = .ok (.aload_n 0, 1) := by decide +kernel
theorem dX4_init_5 : decode cX4_init 5 = .ok (.sipush 400, 3) := by decide +kernel
theorem dX4_init_8 : decode cX4_init 8 = .ok (.newarray .int, 2) := by decide +kernel
theorem dX4_init_10 : decode cX4_init 10 = .ok (.putfield 9, 3) := by decide +kernel
theorem dX4_init_13 : decode cX4_init 13 = .ok (.aload_n 0, 1) := by decide +kernel
theorem dX4_init_14 : decode cX4_init 14 = .ok (.new 15, 3) := by decide +kernel
theorem dX4_init_17 : decode cX4_init 17 = .ok (.dup, 1) := by decide +kernel
theorem dX4_init_18 : decode cX4_init 18 = .ok (.invokespecial 17, 3) := by decide +kernel
theorem dX4_init_21 : decode cX4_init 21 = .ok (.putfield 18, 3) := by decide +kernel
theorem dX4_init_24 : decode cX4_init 24 = .ok (.aload_n 0, 1) := by decide +kernel
theorem dX4_init_25 : decode cX4_init 25 = .ok (.new 22, 3) := by decide +kernel
theorem dX4_init_28 : decode cX4_init 28 = .ok (.dup, 1) := by decide +kernel
theorem dX4_init_29 : decode cX4_init 29 = .ok (.invokespecial 24, 3) := by decide +kernel
theorem dX4_init_32 : decode cX4_init 32 = .ok (.putfield 25, 3) := by decide +kernel
theorem dX4_init_35 : decode cX4_init 35 = .ok (.return_, 1) := by decide +kernel
set_option maxHeartbeats 8000000 in
set_option maxRecDepth 100000 in
theorem yc_Reader {l : Launch} {D : va_G} {cA : Nat → ClassId} {h0 : Nat} : YCt l D cA yX4_init cX4_init 1 2 14 927 h0 [(h0, .inr (3, [.null, .int 0, .int 0, .int 0, .int 0, .int 0, .null, .null]))] (yp_Reader cA h0) := by
  refine yct (by decide +kernel) (by decide) (fun E hl hD hcA hN hIn hC hR => ?_)
  subst hl; subst hD; subst hcA
  refine yw_aload_n hC dX4_init_0 rfl 0 rfl ?_
  refine yw_obj hC (by decide) dX4_init_1 kw_1_222 kw_1_26 kw_1_27 ?_
  refine yw_aload_n hC dX4_init_4 rfl 0 rfl ?_
  refine yw_sipush hC (v := 400) dX4_init_5 (by decide) ?_
  refine yw_newa hC (atype := .int) (ty := .int) (t0 := 0) (c0 := ycA E 10) (N := 400) kw_1_125 rfl rfl yo_int (fun _ => rfl) (by decide) (by decide) (by decide) (Nat.le_of_ble_eq_true rfl) (Nat.le_of_ble_eq_true rfl) dX4_init_8 (fun q1 => ?_)
  refine yw_putF hC (hIn rfl) (ws' := ([(h0, .inr (3, [.ref q1, .int 0, .int 0, .int 0, .int 0, .int 0, .null, .null]))] ++ [(q1, .inl (ycA E 10, 400, .inl (fun _ => 0)))])) (ty := .array .int) zF_Reader_tape.1 0 rfl (by decide +kernel) rfl rfl (by decide) kw_1_227 dX4_init_10 rfl ?_
  refine yw_aload_n hC dX4_init_13 rfl 0 rfl ?_
  refine yw_new hC (ci := 7) (N := 17) (T := TX8) (C := "ClassOfMany$Told") (fs := [.int 0, .int 0, .null, .null, .null, .null, .null, .null, .int 0, .int 0, .int 0, .int 0, .null, .null, .null, .int 0, .null]) rfl tyX8 tyX8_ok (fun j hj => by match j, hj with | 0, _ => rfl | 1, _ => rfl | 2, _ => rfl | 3, _ => rfl | 4, _ => rfl | 5, _ => rfl | 6, _ => rfl | 7, _ => rfl | 8, _ => rfl | 9, _ => rfl | 10, _ => rfl | 11, _ => rfl | 12, _ => rfl | 13, _ => rfl | 14, _ => rfl | 15, _ => rfl | 16, _ => rfl | k + 17, h => exact absurd h (by omega)) kw_1_223 kw_1_29 kw_1_2 (Nat.le_of_ble_eq_true rfl) (Nat.le_of_ble_eq_true rfl) dX4_init_14 (fun q2 => ?_)
  refine yw_dup hC dX4_init_17 rfl ?_
  refine yw_callN hC (yc_Told (h0 := q2)) kw_1_32 kw_1_2 (by decide +kernel) kw_1_31 rfl (by decide +kernel) (by decide) (by decide) (Nat.le_of_ble_eq_true rfl) dX4_init_18 (Nat.le_of_ble_eq_true rfl) (Nat.le_of_ble_eq_true rfl) (fun u3 => ?_)
  refine yw_put hC (ws' := (([(h0, .inr (3, [.ref q1, .int 0, .int 0, .int 0, .int 0, .int 0, .ref q2, .null]))] ++ [(q1, .inl (ycA E 10, 400, .inl (fun _ => 0)))]) ++ yp_Told (ycA E) q2 u3)) (ty := .object "ClassOfMany$Told") zF_Reader_told.1 0 rfl (by decide +kernel) rfl rfl (by decide) kw_1_234 dX4_init_21 rfl ?_
  refine yw_aload_n hC dX4_init_24 rfl 0 rfl ?_
  refine yw_new hC (ci := 6) (N := 12) (T := TX7) (C := "ClassOfMany$Standing") (fs := [.int 0, .int 0, .int 0, .int 0, .int 0, .int 0, .int 0, .int 0, .int 0, .int 0, .int 0, .null]) rfl tyX7 tyX7_ok (fun j hj => by match j, hj with | 0, _ => rfl | 1, _ => rfl | 2, _ => rfl | 3, _ => rfl | 4, _ => rfl | 5, _ => rfl | 6, _ => rfl | 7, _ => rfl | 8, _ => rfl | 9, _ => rfl | 10, _ => rfl | 11, _ => rfl | k + 12, h => exact absurd h (by omega)) kw_1_225 kw_1_127 kw_1_3 (Nat.le_of_ble_eq_true rfl) (Nat.le_of_ble_eq_true rfl) dX4_init_25 (fun q4 => ?_)
  refine yw_dup hC dX4_init_28 rfl ?_
  refine yw_callN hC (yc_Standing (h0 := q4)) kw_1_130 kw_1_3 (by decide +kernel) kw_1_129 rfl (by decide +kernel) (by decide) (by decide) (Nat.le_of_ble_eq_true rfl) dX4_init_29 (Nat.le_of_ble_eq_true rfl) (Nat.le_of_ble_eq_true rfl) (fun u5 => ?_)
  refine yw_putF hC (hIn rfl) (ws' := ((([(h0, .inr (3, [.ref q1, .int 0, .int 0, .int 0, .int 0, .int 0, .ref q2, .ref q4]))] ++ [(q1, .inl (ycA E 10, 400, .inl (fun _ => 0)))]) ++ yp_Told (ycA E) q2 u3) ++ yp_Standing (ycA E) q4 u5)) (ty := .object "ClassOfMany$Standing") zF_Reader_standing.1 0 rfl (by decide +kernel) rfl rfl (by decide) kw_1_236 dX4_init_32 rfl ?_
  exact yw_ret hC hR (fun i => [(h0), (q1), (q2), (u3 1), (u3 2), (u3 3), (u3 4), (u3 5), (u3 6), (u3 7), (u3 8), (u3 9), (u3 10), (q4), (u5 1)].getD i 0) rfl dX4_init_35
theorem dX6_init_0 : decode cX6_init 0 = .ok (.aload_n 0, 1) := by decide +kernel
theorem dX6_init_1 : decode cX6_init 1 = .ok (.invokespecial 3, 3) := by decide +kernel
theorem dX6_init_4 : decode cX6_init 4 = .ok (.aload_n 0, 1) := by decide +kernel
theorem dX6_init_5 : decode cX6_init 5 = .ok (.bipush 10, 2) := by decide +kernel
theorem dX6_init_7 : decode cX6_init 7 = .ok (.newarray .int, 2) := by decide +kernel
theorem dX6_init_9 : decode cX6_init 9 = .ok (.putfield 9, 3) := by decide +kernel
theorem dX6_init_12 : decode cX6_init 12 = .ok (.aload_n 0, 1) := by decide +kernel
theorem dX6_init_13 : decode cX6_init 13 = .ok (.bipush 10, 2) := by decide +kernel
theorem dX6_init_15 : decode cX6_init 15 = .ok (.newarray .int, 2) := by decide +kernel
theorem dX6_init_17 : decode cX6_init 17 = .ok (.putfield 15, 3) := by decide +kernel
theorem dX6_init_20 : decode cX6_init 20 = .ok (.aload_n 0, 1) := by decide +kernel
theorem dX6_init_21 : decode cX6_init 21 = .ok (.sipush 1024, 3) := by decide +kernel
theorem dX6_init_24 : decode cX6_init 24 = .ok (.newarray .boolean, 2) := by decide +kernel
theorem dX6_init_26 : decode cX6_init 26 = .ok (.putfield 18, 3) := by decide +kernel
theorem dX6_init_29 : decode cX6_init 29 = .ok (.aload_n 0, 1) := by decide +kernel
theorem dX6_init_30 : decode cX6_init 30 = .ok (.sipush 1024, 3) := by decide +kernel
theorem dX6_init_33 : decode cX6_init 33 = .ok (.newarray .int, 2) := by decide +kernel
theorem dX6_init_35 : decode cX6_init 35 = .ok (.putfield 22, 3) := by decide +kernel
theorem dX6_init_38 : decode cX6_init 38 = .ok (.aload_n 0, 1) := by decide +kernel
theorem dX6_init_39 : decode cX6_init 39 = .ok (.sipush 1024, 3) := by decide +kernel
theorem dX6_init_42 : decode cX6_init 42 = .ok (.newarray .int, 2) := by decide +kernel
theorem dX6_init_44 : decode cX6_init 44 = .ok (.putfield 25, 3) := by decide +kernel
theorem dX6_init_47 : decode cX6_init 47 = .ok (.return_, 1) := by decide +kernel
set_option maxHeartbeats 8000000 in
set_option maxRecDepth 100000 in
theorem yc_Splitter {l : Launch} {D : va_G} {cA : Nat → ClassId} {h0 : Nat} : YCt l D cA yX6_init cX6_init 1 1 5 3092 h0 [(h0, .inr (5, [.int 0, .int 0, .int 0, .null, .null, .int 0, .null, .null, .null]))] (yp_Splitter cA h0) := by
  refine yct (by decide +kernel) (by decide) (fun E hl hD hcA hN hIn hC hR => ?_)
  subst hl; subst hD; subst hcA
  refine yw_aload_n hC dX6_init_0 rfl 0 rfl ?_
  refine yw_obj hC (by decide) dX6_init_1 kw_2_20 kw_1_26 kw_1_27 ?_
  refine yw_aload_n hC dX6_init_4 rfl 0 rfl ?_
  refine yw_bipush hC (v := 10) dX6_init_5 (by decide) ?_
  refine yw_newa hC (atype := .int) (ty := .int) (t0 := 0) (c0 := ycA E 10) (N := 10) kw_1_125 rfl rfl yo_int (fun _ => rfl) (by decide) (by decide) (by decide) (Nat.le_of_ble_eq_true rfl) (Nat.le_of_ble_eq_true rfl) dX6_init_7 (fun q1 => ?_)
  refine yw_putF hC (hIn rfl) (ws' := ([(h0, .inr (5, [.int 0, .int 0, .int 0, .ref q1, .null, .int 0, .null, .null, .null]))] ++ [(q1, .inl (ycA E 10, 10, .inl (fun _ => 0)))])) (ty := .array .int) zF_Splitter_foes.1 0 rfl (by decide +kernel) rfl rfl (by decide) kw_2_24 dX6_init_9 rfl ?_
  refine yw_aload_n hC dX6_init_12 rfl 0 rfl ?_
  refine yw_bipush hC (v := 10) dX6_init_13 (by decide) ?_
  refine yw_newa hC (atype := .int) (ty := .int) (t0 := 0) (c0 := ycA E 10) (N := 10) kw_1_125 rfl rfl yo_int (fun _ => rfl) (by decide) (by decide) (by decide) (Nat.le_of_ble_eq_true rfl) (Nat.le_of_ble_eq_true rfl) dX6_init_15 (fun q2 => ?_)
  refine yw_putF hC (hIn rfl) (ws' := (([(h0, .inr (5, [.int 0, .int 0, .int 0, .ref q1, .ref q2, .int 0, .null, .null, .null]))] ++ [(q1, .inl (ycA E 10, 10, .inl (fun _ => 0)))]) ++ [(q2, .inl (ycA E 10, 10, .inl (fun _ => 0)))])) (ty := .array .int) zF_Splitter_groups.1 0 rfl (by decide +kernel) rfl rfl (by decide) kw_2_25 dX6_init_17 rfl ?_
  refine yw_aload_n hC dX6_init_20 rfl 0 rfl ?_
  refine yw_sipush hC (v := 1024) dX6_init_21 (by decide) ?_
  refine yw_newa hC (atype := .boolean) (ty := .boolean) (t0 := 2) (c0 := ycA E 12) (N := 1024) kw_2_51 rfl rfl yo_boolean (fun _ => rfl) (by decide) (by decide) (by decide) (Nat.le_of_ble_eq_true rfl) (Nat.le_of_ble_eq_true rfl) dX6_init_24 (fun q3 => ?_)
  refine yw_putF hC (hIn rfl) (ws' := ((([(h0, .inr (5, [.int 0, .int 0, .int 0, .ref q1, .ref q2, .int 0, .ref q3, .null, .null]))] ++ [(q1, .inl (ycA E 10, 10, .inl (fun _ => 0)))]) ++ [(q2, .inl (ycA E 10, 10, .inl (fun _ => 0)))]) ++ [(q3, .inl (ycA E 12, 1024, .inl (fun _ => 0)))])) (ty := .array .boolean) zF_Splitter_peaceful.1 0 rfl (by decide +kernel) rfl rfl (by decide) kw_2_29 dX6_init_26 rfl ?_
  refine yw_aload_n hC dX6_init_29 rfl 0 rfl ?_
  refine yw_sipush hC (v := 1024) dX6_init_30 (by decide) ?_
  refine yw_newa hC (atype := .int) (ty := .int) (t0 := 0) (c0 := ycA E 10) (N := 1024) kw_1_125 rfl rfl yo_int (fun _ => rfl) (by decide) (by decide) (by decide) (Nat.le_of_ble_eq_true rfl) (Nat.le_of_ble_eq_true rfl) dX6_init_33 (fun q4 => ?_)
  refine yw_put hC (ws' := (((([(h0, .inr (5, [.int 0, .int 0, .int 0, .ref q1, .ref q2, .int 0, .ref q3, .ref q4, .null]))] ++ [(q1, .inl (ycA E 10, 10, .inl (fun _ => 0)))]) ++ [(q2, .inl (ycA E 10, 10, .inl (fun _ => 0)))]) ++ [(q3, .inl (ycA E 12, 1024, .inl (fun _ => 0)))]) ++ [(q4, .inl (ycA E 10, 1024, .inl (fun _ => 0)))])) (ty := .array .int) zF_Splitter_ways.1 0 rfl (by decide +kernel) rfl rfl (by decide) kw_2_30 dX6_init_35 rfl ?_
  refine yw_aload_n hC dX6_init_38 rfl 0 rfl ?_
  refine yw_sipush hC (v := 1024) dX6_init_39 (by decide) ?_
  refine yw_newa hC (atype := .int) (ty := .int) (t0 := 0) (c0 := ycA E 10) (N := 1024) kw_1_125 rfl rfl yo_int (fun _ => rfl) (by decide) (by decide) (by decide) (Nat.le_of_ble_eq_true rfl) (Nat.le_of_ble_eq_true rfl) dX6_init_42 (fun q5 => ?_)
  refine yw_put hC (ws' := ((((([(h0, .inr (5, [.int 0, .int 0, .int 0, .ref q1, .ref q2, .int 0, .ref q3, .ref q4, .ref q5]))] ++ [(q1, .inl (ycA E 10, 10, .inl (fun _ => 0)))]) ++ [(q2, .inl (ycA E 10, 10, .inl (fun _ => 0)))]) ++ [(q3, .inl (ycA E 12, 1024, .inl (fun _ => 0)))]) ++ [(q4, .inl (ycA E 10, 1024, .inl (fun _ => 0)))]) ++ [(q5, .inl (ycA E 10, 1024, .inl (fun _ => 0)))])) (ty := .array .int) zF_Splitter_fewerWays.1 0 rfl (by decide +kernel) rfl rfl (by decide) kw_2_31 dX6_init_44 rfl ?_
  exact yw_ret hC hR (fun i => [(h0), (q1), (q2), (q3), (q4), (q5)].getD i 0) rfl dX6_init_47
theorem dX3_init_0 : decode cX3_init 0 = .ok (.aload_n 0, 1) := by decide +kernel
theorem dX3_init_1 : decode cX3_init 1 = .ok (.invokespecial 3, 3) := by decide +kernel
theorem dX3_init_4 : decode cX3_init 4 = .ok (.aload_n 0, 1) := by decide +kernel
theorem dX3_init_5 : decode cX3_init 5 = .ok (.bipush 10, 2) := by decide +kernel
theorem dX3_init_7 : decode cX3_init 7 = .ok (.newarray .int, 2) := by decide +kernel
theorem dX3_init_9 : decode cX3_init 9 = .ok (.putfield 9, 3) := by decide +kernel
theorem dX3_init_12 : decode cX3_init 12 = .ok (.aload_n 0, 1) := by decide +kernel
theorem dX3_init_13 : decode cX3_init 13 = .ok (.bipush 10, 2) := by decide +kernel
theorem dX3_init_15 : decode cX3_init 15 = .ok (.newarray .int, 2) := by decide +kernel
theorem dX3_init_17 : decode cX3_init 17 = .ok (.putfield 15, 3) := by decide +kernel
theorem dX3_init_20 : decode cX3_init 20 = .ok (.aload_n 0, 1) := by decide +kernel
theorem dX3_init_21 : decode cX3_init 21 = .ok (.bipush 10, 2) := by decide +kernel
theorem dX3_init_23 : decode cX3_init 23 = .ok (.newarray .int, 2) := by decide +kernel
theorem dX3_init_25 : decode cX3_init 25 = .ok (.putfield 18, 3) := by decide +kernel
theorem dX3_init_28 : decode cX3_init 28 = .ok (.aload_n 0, 1) := by decide +kernel
theorem dX3_init_29 : decode cX3_init 29 = .ok (.bipush 10, 2) := by decide +kernel
theorem dX3_init_31 : decode cX3_init 31 = .ok (.newarray .int, 2) := by decide +kernel
theorem dX3_init_33 : decode cX3_init 33 = .ok (.putfield 21, 3) := by decide +kernel
theorem dX3_init_36 : decode cX3_init 36 = .ok (.aload_n 0, 1) := by decide +kernel
theorem dX3_init_37 : decode cX3_init 37 = .ok (.bipush 10, 2) := by decide +kernel
theorem dX3_init_39 : decode cX3_init 39 = .ok (.newarray .int, 2) := by decide +kernel
theorem dX3_init_41 : decode cX3_init 41 = .ok (.putfield 24, 3) := by decide +kernel
theorem dX3_init_44 : decode cX3_init 44 = .ok (.aload_n 0, 1) := by decide +kernel
theorem dX3_init_45 : decode cX3_init 45 = .ok (.bipush 10, 2) := by decide +kernel
theorem dX3_init_47 : decode cX3_init 47 = .ok (.newarray .int, 2) := by decide +kernel
theorem dX3_init_49 : decode cX3_init 49 = .ok (.putfield 27, 3) := by decide +kernel
theorem dX3_init_52 : decode cX3_init 52 = .ok (.aload_n 0, 1) := by decide +kernel
theorem dX3_init_53 : decode cX3_init 53 = .ok (.bipush 90, 2) := by decide +kernel
theorem dX3_init_55 : decode cX3_init 55 = .ok (.newarray .int, 2) := by decide +kernel
theorem dX3_init_57 : decode cX3_init 57 = .ok (.putfield 30, 3) := by decide +kernel
theorem dX3_init_60 : decode cX3_init 60 = .ok (.return_, 1) := by decide +kernel
set_option maxHeartbeats 8000000 in
set_option maxRecDepth 100000 in
theorem yc_Payer {l : Launch} {D : va_G} {cA : Nat → ClassId} {h0 : Nat} : YCt l D cA yX3_init cX3_init 1 1 7 150 h0 [(h0, .inr (2, [.null, .null, .null, .null, .null, .null, .null, .int 0, .int 0, .int 0, .int 0, .int 0, .int 0, .int 0, .int 0, .int 0, .int 0, .int 0]))] (yp_Payer cA h0) := by
  refine yct (by decide +kernel) (by decide) (fun E hl hD hcA hN hIn hC hR => ?_)
  subst hl; subst hD; subst hcA
  refine yw_aload_n hC dX3_init_0 rfl 0 rfl ?_
  refine yw_obj hC (by decide) dX3_init_1 kw_2_57 kw_1_26 kw_1_27 ?_
  refine yw_aload_n hC dX3_init_4 rfl 0 rfl ?_
  refine yw_bipush hC (v := 10) dX3_init_5 (by decide) ?_
  refine yw_newa hC (atype := .int) (ty := .int) (t0 := 0) (c0 := ycA E 10) (N := 10) kw_1_125 rfl rfl yo_int (fun _ => rfl) (by decide) (by decide) (by decide) (Nat.le_of_ble_eq_true rfl) (Nat.le_of_ble_eq_true rfl) dX3_init_7 (fun q1 => ?_)
  refine yw_putF hC (hIn rfl) (ws' := ([(h0, .inr (2, [.ref q1, .null, .null, .null, .null, .null, .null, .int 0, .int 0, .int 0, .int 0, .int 0, .int 0, .int 0, .int 0, .int 0, .int 0, .int 0]))] ++ [(q1, .inl (ycA E 10, 10, .inl (fun _ => 0)))])) (ty := .array .int) zF_Payer_claims.1 0 rfl (by decide +kernel) rfl rfl (by decide) kw_2_58 dX3_init_9 rfl ?_
  refine yw_aload_n hC dX3_init_12 rfl 0 rfl ?_
  refine yw_bipush hC (v := 10) dX3_init_13 (by decide) ?_
  refine yw_newa hC (atype := .int) (ty := .int) (t0 := 0) (c0 := ycA E 10) (N := 10) kw_1_125 rfl rfl yo_int (fun _ => rfl) (by decide) (by decide) (by decide) (Nat.le_of_ble_eq_true rfl) (Nat.le_of_ble_eq_true rfl) dX3_init_15 (fun q2 => ?_)
  refine yw_putF hC (hIn rfl) (ws' := (([(h0, .inr (2, [.ref q1, .ref q2, .null, .null, .null, .null, .null, .int 0, .int 0, .int 0, .int 0, .int 0, .int 0, .int 0, .int 0, .int 0, .int 0, .int 0]))] ++ [(q1, .inl (ycA E 10, 10, .inl (fun _ => 0)))]) ++ [(q2, .inl (ycA E 10, 10, .inl (fun _ => 0)))])) (ty := .array .int) zF_Payer_groupOf.1 0 rfl (by decide +kernel) rfl rfl (by decide) kw_2_60 dX3_init_17 rfl ?_
  refine yw_aload_n hC dX3_init_20 rfl 0 rfl ?_
  refine yw_bipush hC (v := 10) dX3_init_21 (by decide) ?_
  refine yw_newa hC (atype := .int) (ty := .int) (t0 := 0) (c0 := ycA E 10) (N := 10) kw_1_125 rfl rfl yo_int (fun _ => rfl) (by decide) (by decide) (by decide) (Nat.le_of_ble_eq_true rfl) (Nat.le_of_ble_eq_true rfl) dX3_init_23 (fun q3 => ?_)
  refine yw_putF hC (hIn rfl) (ws' := ((([(h0, .inr (2, [.ref q1, .ref q2, .ref q3, .null, .null, .null, .null, .int 0, .int 0, .int 0, .int 0, .int 0, .int 0, .int 0, .int 0, .int 0, .int 0, .int 0]))] ++ [(q1, .inl (ycA E 10, 10, .inl (fun _ => 0)))]) ++ [(q2, .inl (ycA E 10, 10, .inl (fun _ => 0)))]) ++ [(q3, .inl (ycA E 10, 10, .inl (fun _ => 0)))])) (ty := .array .int) zF_Payer_groupClaims.1 0 rfl (by decide +kernel) rfl rfl (by decide) kw_2_61 dX3_init_25 rfl ?_
  refine yw_aload_n hC dX3_init_28 rfl 0 rfl ?_
  refine yw_bipush hC (v := 10) dX3_init_29 (by decide) ?_
  refine yw_newa hC (atype := .int) (ty := .int) (t0 := 0) (c0 := ycA E 10) (N := 10) kw_1_125 rfl rfl yo_int (fun _ => rfl) (by decide) (by decide) (by decide) (Nat.le_of_ble_eq_true rfl) (Nat.le_of_ble_eq_true rfl) dX3_init_31 (fun q4 => ?_)
  refine yw_putF hC (hIn rfl) (ws' := (((([(h0, .inr (2, [.ref q1, .ref q2, .ref q3, .ref q4, .null, .null, .null, .int 0, .int 0, .int 0, .int 0, .int 0, .int 0, .int 0, .int 0, .int 0, .int 0, .int 0]))] ++ [(q1, .inl (ycA E 10, 10, .inl (fun _ => 0)))]) ++ [(q2, .inl (ycA E 10, 10, .inl (fun _ => 0)))]) ++ [(q3, .inl (ycA E 10, 10, .inl (fun _ => 0)))]) ++ [(q4, .inl (ycA E 10, 10, .inl (fun _ => 0)))])) (ty := .array .int) zF_Payer_groupHeads.1 0 rfl (by decide +kernel) rfl rfl (by decide) kw_2_62 dX3_init_33 rfl ?_
  refine yw_aload_n hC dX3_init_36 rfl 0 rfl ?_
  refine yw_bipush hC (v := 10) dX3_init_37 (by decide) ?_
  refine yw_newa hC (atype := .int) (ty := .int) (t0 := 0) (c0 := ycA E 10) (N := 10) kw_1_125 rfl rfl yo_int (fun _ => rfl) (by decide) (by decide) (by decide) (Nat.le_of_ble_eq_true rfl) (Nat.le_of_ble_eq_true rfl) dX3_init_39 (fun q5 => ?_)
  refine yw_putF hC (hIn rfl) (ws' := ((((([(h0, .inr (2, [.ref q1, .ref q2, .ref q3, .ref q4, .ref q5, .null, .null, .int 0, .int 0, .int 0, .int 0, .int 0, .int 0, .int 0, .int 0, .int 0, .int 0, .int 0]))] ++ [(q1, .inl (ycA E 10, 10, .inl (fun _ => 0)))]) ++ [(q2, .inl (ycA E 10, 10, .inl (fun _ => 0)))]) ++ [(q3, .inl (ycA E 10, 10, .inl (fun _ => 0)))]) ++ [(q4, .inl (ycA E 10, 10, .inl (fun _ => 0)))]) ++ [(q5, .inl (ycA E 10, 10, .inl (fun _ => 0)))])) (ty := .array .int) zF_Payer_pots.1 0 rfl (by decide +kernel) rfl rfl (by decide) kw_2_63 dX3_init_41 rfl ?_
  refine yw_aload_n hC dX3_init_44 rfl 0 rfl ?_
  refine yw_bipush hC (v := 10) dX3_init_45 (by decide) ?_
  refine yw_newa hC (atype := .int) (ty := .int) (t0 := 0) (c0 := ycA E 10) (N := 10) kw_1_125 rfl rfl yo_int (fun _ => rfl) (by decide) (by decide) (by decide) (Nat.le_of_ble_eq_true rfl) (Nat.le_of_ble_eq_true rfl) dX3_init_47 (fun q6 => ?_)
  refine yw_putF hC (hIn rfl) (ws' := (((((([(h0, .inr (2, [.ref q1, .ref q2, .ref q3, .ref q4, .ref q5, .ref q6, .null, .int 0, .int 0, .int 0, .int 0, .int 0, .int 0, .int 0, .int 0, .int 0, .int 0, .int 0]))] ++ [(q1, .inl (ycA E 10, 10, .inl (fun _ => 0)))]) ++ [(q2, .inl (ycA E 10, 10, .inl (fun _ => 0)))]) ++ [(q3, .inl (ycA E 10, 10, .inl (fun _ => 0)))]) ++ [(q4, .inl (ycA E 10, 10, .inl (fun _ => 0)))]) ++ [(q5, .inl (ycA E 10, 10, .inl (fun _ => 0)))]) ++ [(q6, .inl (ycA E 10, 10, .inl (fun _ => 0)))])) (ty := .array .int) zF_Payer_paidTo.1 0 rfl (by decide +kernel) rfl rfl (by decide) kw_2_65 dX3_init_49 rfl ?_
  refine yw_aload_n hC dX3_init_52 rfl 0 rfl ?_
  refine yw_bipush hC (v := 90) dX3_init_53 (by decide) ?_
  refine yw_newa hC (atype := .int) (ty := .int) (t0 := 0) (c0 := ycA E 10) (N := 90) kw_1_125 rfl rfl yo_int (fun _ => rfl) (by decide) (by decide) (by decide) (Nat.le_of_ble_eq_true rfl) (Nat.le_of_ble_eq_true rfl) dX3_init_55 (fun q7 => ?_)
  refine yw_putF hC (hIn rfl) (ws' := ((((((([(h0, .inr (2, [.ref q1, .ref q2, .ref q3, .ref q4, .ref q5, .ref q6, .ref q7, .int 0, .int 0, .int 0, .int 0, .int 0, .int 0, .int 0, .int 0, .int 0, .int 0, .int 0]))] ++ [(q1, .inl (ycA E 10, 10, .inl (fun _ => 0)))]) ++ [(q2, .inl (ycA E 10, 10, .inl (fun _ => 0)))]) ++ [(q3, .inl (ycA E 10, 10, .inl (fun _ => 0)))]) ++ [(q4, .inl (ycA E 10, 10, .inl (fun _ => 0)))]) ++ [(q5, .inl (ycA E 10, 10, .inl (fun _ => 0)))]) ++ [(q6, .inl (ycA E 10, 10, .inl (fun _ => 0)))]) ++ [(q7, .inl (ycA E 10, 90, .inl (fun _ => 0)))])) (ty := .array .int) zF_Payer_hadIn.1 0 rfl (by decide +kernel) rfl rfl (by decide) kw_2_68 dX3_init_57 rfl ?_
  exact yw_ret hC hR (fun i => [(h0), (q1), (q2), (q3), (q4), (q5), (q6), (q7)].getD i 0) rfl dX3_init_60
theorem dX5_init_0 : decode cX5_init 0 = .ok (.aload_n 0, 1) := by decide +kernel
theorem dX5_init_1 : decode cX5_init 1 = .ok (.invokespecial 3, 3) := by decide +kernel
theorem dX5_init_4 : decode cX5_init 4 = .ok (.aload_n 0, 1) := by decide +kernel
theorem dX5_init_5 : decode cX5_init 5 = .ok (.sipush 1024, 3) := by decide +kernel
theorem dX5_init_8 : decode cX5_init 8 = .ok (.newarray .int, 2) := by decide +kernel
theorem dX5_init_10 : decode cX5_init 10 = .ok (.putfield 9, 3) := by decide +kernel
theorem dX5_init_13 : decode cX5_init 13 = .ok (.aload_n 0, 1) := by decide +kernel
theorem dX5_init_14 : decode cX5_init 14 = .ok (.sipush 1024, 3) := by decide +kernel
theorem dX5_init_17 : decode cX5_init 17 = .ok (.newarray .int, 2) := by decide +kernel
theorem dX5_init_19 : decode cX5_init 19 = .ok (.putfield 15, 3) := by decide +kernel
theorem dX5_init_22 : decode cX5_init 22 = .ok (.aload_n 0, 1) := by decide +kernel
theorem dX5_init_23 : decode cX5_init 23 = .ok (.bipush 10, 2) := by decide +kernel
theorem dX5_init_25 : decode cX5_init 25 = .ok (.newarray .int, 2) := by decide +kernel
theorem dX5_init_27 : decode cX5_init 27 = .ok (.putfield 18, 3) := by decide +kernel
theorem dX5_init_30 : decode cX5_init 30 = .ok (.return_, 1) := by decide +kernel
set_option maxHeartbeats 8000000 in
set_option maxRecDepth 100000 in
theorem yc_Resting {l : Launch} {D : va_G} {cA : Nat → ClassId} {h0 : Nat} : YCt l D cA yX5_init cX5_init 1 1 3 2058 h0 [(h0, .inr (4, [.int 0, .int 0, .int 0, .int 0, .null, .null, .null]))] (yp_Resting cA h0) := by
  refine yct (by decide +kernel) (by decide) (fun E hl hD hcA hN hIn hC hR => ?_)
  subst hl; subst hD; subst hcA
  refine yw_aload_n hC dX5_init_0 rfl 0 rfl ?_
  refine yw_obj hC (by decide) dX5_init_1 kw_2_129 kw_1_26 kw_1_27 ?_
  refine yw_aload_n hC dX5_init_4 rfl 0 rfl ?_
  refine yw_sipush hC (v := 1024) dX5_init_5 (by decide) ?_
  refine yw_newa hC (atype := .int) (ty := .int) (t0 := 0) (c0 := ycA E 10) (N := 1024) kw_1_125 rfl rfl yo_int (fun _ => rfl) (by decide) (by decide) (by decide) (Nat.le_of_ble_eq_true rfl) (Nat.le_of_ble_eq_true rfl) dX5_init_8 (fun q1 => ?_)
  refine yw_putF hC (hIn rfl) (ws' := ([(h0, .inr (4, [.int 0, .int 0, .int 0, .int 0, .ref q1, .null, .null]))] ++ [(q1, .inl (ycA E 10, 1024, .inl (fun _ => 0)))])) (ty := .array .int) zF_Resting_sets.1 0 rfl (by decide +kernel) rfl rfl (by decide) kw_2_135 dX5_init_10 rfl ?_
  refine yw_aload_n hC dX5_init_13 rfl 0 rfl ?_
  refine yw_sipush hC (v := 1024) dX5_init_14 (by decide) ?_
  refine yw_newa hC (atype := .int) (ty := .int) (t0 := 0) (c0 := ycA E 10) (N := 1024) kw_1_125 rfl rfl yo_int (fun _ => rfl) (by decide) (by decide) (by decide) (Nat.le_of_ble_eq_true rfl) (Nat.le_of_ble_eq_true rfl) dX5_init_17 (fun q2 => ?_)
  refine yw_putF hC (hIn rfl) (ws' := (([(h0, .inr (4, [.int 0, .int 0, .int 0, .int 0, .ref q1, .ref q2, .null]))] ++ [(q1, .inl (ycA E 10, 1024, .inl (fun _ => 0)))]) ++ [(q2, .inl (ycA E 10, 1024, .inl (fun _ => 0)))])) (ty := .array .int) zF_Resting_gladIn.1 0 rfl (by decide +kernel) rfl rfl (by decide) kw_2_137 dX5_init_19 rfl ?_
  refine yw_aload_n hC dX5_init_22 rfl 0 rfl ?_
  refine yw_bipush hC (v := 10) dX5_init_23 (by decide) ?_
  refine yw_newa hC (atype := .int) (ty := .int) (t0 := 0) (c0 := ycA E 10) (N := 10) kw_1_125 rfl rfl yo_int (fun _ => rfl) (by decide) (by decide) (by decide) (Nat.le_of_ble_eq_true rfl) (Nat.le_of_ble_eq_true rfl) dX5_init_25 (fun q3 => ?_)
  refine yw_putF hC (hIn rfl) (ws' := ((([(h0, .inr (4, [.int 0, .int 0, .int 0, .int 0, .ref q1, .ref q2, .ref q3]))] ++ [(q1, .inl (ycA E 10, 1024, .inl (fun _ => 0)))]) ++ [(q2, .inl (ycA E 10, 1024, .inl (fun _ => 0)))]) ++ [(q3, .inl (ycA E 10, 10, .inl (fun _ => 0)))])) (ty := .array .int) zF_Resting_outside.1 0 rfl (by decide +kernel) rfl rfl (by decide) kw_2_138 dX5_init_27 rfl ?_
  exact yw_ret hC hR (fun i => [(h0), (q1), (q2), (q3)].getD i 0) rfl dX5_init_30
theorem dX2_init_0 : decode cX2_init 0 = .ok (.aload_n 0, 1) := by decide +kernel
theorem dX2_init_1 : decode cX2_init 1 = .ok (.invokespecial 3, 3) := by decide +kernel
theorem dX2_init_4 : decode cX2_init 4 = .ok (.aload_n 0, 1) := by decide +kernel
theorem dX2_init_5 : decode cX2_init 5 = .ok (.sipush 1024, 3) := by decide +kernel
theorem dX2_init_8 : decode cX2_init 8 = .ok (.newarray .byte, 2) := by decide +kernel
theorem dX2_init_10 : decode cX2_init 10 = .ok (.putfield 9, 3) := by decide +kernel
theorem dX2_init_13 : decode cX2_init 13 = .ok (.return_, 1) := by decide +kernel
set_option maxHeartbeats 8000000 in
set_option maxRecDepth 100000 in
theorem yc_Page {l : Launch} {D : va_G} {cA : Nat → ClassId} {h0 : Nat} : YCt l D cA yX2_init cX2_init 1 1 1 1024 h0 [(h0, .inr (1, [.null, .int 0]))] (yp_Page cA h0) := by
  refine yct (by decide +kernel) (by decide) (fun E hl hD hcA hN hIn hC hR => ?_)
  subst hl; subst hD; subst hcA
  refine yw_aload_n hC dX2_init_0 rfl 0 rfl ?_
  refine yw_obj hC (by decide) dX2_init_1 kw_2_159 kw_1_26 kw_1_27 ?_
  refine yw_aload_n hC dX2_init_4 rfl 0 rfl ?_
  refine yw_sipush hC (v := 1024) dX2_init_5 (by decide) ?_
  refine yw_newa hC (atype := .byte) (ty := .byte) (t0 := 1) (c0 := ycA E 11) (N := 1024) kw_2_167 rfl rfl yo_byte (fun _ => rfl) (by decide) (by decide) (by decide) (Nat.le_of_ble_eq_true rfl) (Nat.le_of_ble_eq_true rfl) dX2_init_8 (fun q1 => ?_)
  refine yw_putF hC (hIn rfl) (ws' := ([(h0, .inr (1, [.ref q1, .int 0]))] ++ [(q1, .inl (ycA E 11, 1024, .inl (fun _ => 0)))])) (ty := .array .byte) zF_Page_row.1 0 rfl (by decide +kernel) rfl rfl (by decide) kw_2_160 dX2_init_10 rfl ?_
  exact yw_ret hC hR (fun i => [(h0), (q1)].getD i 0) rfl dX2_init_13
theorem dX9_init_0 : decode cX9_init 0 = .ok (.aload_n 0, 1) := by decide +kernel
theorem dX9_init_1 : decode cX9_init 1 = .ok (.invokespecial 3, 3) := by decide +kernel
theorem dX9_init_4 : decode cX9_init 4 = .ok (.aload_n 0, 1) := by decide +kernel
theorem dX9_init_5 : decode cX9_init 5 = .ok (.new 9, 3) := by decide +kernel
theorem dX9_init_8 : decode cX9_init 8 = .ok (.dup, 1) := by decide +kernel
theorem dX9_init_9 : decode cX9_init 9 = .ok (.invokespecial 11, 3) := by decide +kernel
theorem dX9_init_12 : decode cX9_init 12 = .ok (.putfield 12, 3) := by decide +kernel
theorem dX9_init_15 : decode cX9_init 15 = .ok (.aload_n 0, 1) := by decide +kernel
theorem dX9_init_16 : decode cX9_init 16 = .ok (.new 16, 3) := by decide +kernel
theorem dX9_init_19 : decode cX9_init 19 = .ok (.dup, 1) := by decide +kernel
theorem dX9_init_20 : decode cX9_init 20 = .ok (.invokespecial 18, 3) := by decide +kernel
theorem dX9_init_23 : decode cX9_init 23 = .ok (.putfield 19, 3) := by decide +kernel
theorem dX9_init_26 : decode cX9_init 26 = .ok (.aload_n 0, 1) := by decide +kernel
theorem dX9_init_27 : decode cX9_init 27 = .ok (.new 16, 3) := by decide +kernel
theorem dX9_init_30 : decode cX9_init 30 = .ok (.dup, 1) := by decide +kernel
theorem dX9_init_31 : decode cX9_init 31 = .ok (.invokespecial 18, 3) := by decide +kernel
theorem dX9_init_34 : decode cX9_init 34 = .ok (.putfield 23, 3) := by decide +kernel
theorem dX9_init_37 : decode cX9_init 37 = .ok (.aload_n 0, 1) := by decide +kernel
theorem dX9_init_38 : decode cX9_init 38 = .ok (.new 26, 3) := by decide +kernel
theorem dX9_init_41 : decode cX9_init 41 = .ok (.dup, 1) := by decide +kernel
theorem dX9_init_42 : decode cX9_init 42 = .ok (.invokespecial 28, 3) := by decide +kernel
theorem dX9_init_45 : decode cX9_init 45 = .ok (.putfield 29, 3) := by decide +kernel
theorem dX9_init_48 : decode cX9_init 48 = .ok (.aload_n 0, 1) := by decide +kernel
theorem dX9_init_49 : decode cX9_init 49 = .ok (.new 33, 3) := by decide +kernel
theorem dX9_init_52 : decode cX9_init 52 = .ok (.dup, 1) := by decide +kernel
theorem dX9_init_53 : decode cX9_init 53 = .ok (.invokespecial 35, 3) := by decide +kernel
theorem dX9_init_56 : decode cX9_init 56 = .ok (.putfield 36, 3) := by decide +kernel
theorem dX9_init_59 : decode cX9_init 59 = .ok (.aload_n 0, 1) := by decide +kernel
theorem dX9_init_60 : decode cX9_init 60 = .ok (.new 40, 3) := by decide +kernel
theorem dX9_init_63 : decode cX9_init 63 = .ok (.dup, 1) := by decide +kernel
theorem dX9_init_64 : decode cX9_init 64 = .ok (.invokespecial 42, 3) := by decide +kernel
theorem dX9_init_67 : decode cX9_init 67 = .ok (.putfield 43, 3) := by decide +kernel
theorem dX9_init_70 : decode cX9_init 70 = .ok (.aload_n 0, 1) := by decide +kernel
theorem dX9_init_71 : decode cX9_init 71 = .ok (.new 47, 3) := by decide +kernel
theorem dX9_init_74 : decode cX9_init 74 = .ok (.dup, 1) := by decide +kernel
theorem dX9_init_75 : decode cX9_init 75 = .ok (.invokespecial 49, 3) := by decide +kernel
theorem dX9_init_78 : decode cX9_init 78 = .ok (.putfield 50, 3) := by decide +kernel
theorem dX9_init_81 : decode cX9_init 81 = .ok (.aload_n 0, 1) := by decide +kernel
theorem dX9_init_82 : decode cX9_init 82 = .ok (.new 54, 3) := by decide +kernel
theorem dX9_init_85 : decode cX9_init 85 = .ok (.dup, 1) := by decide +kernel
theorem dX9_init_86 : decode cX9_init 86 = .ok (.invokespecial 56, 3) := by decide +kernel
theorem dX9_init_89 : decode cX9_init 89 = .ok (.putfield 57, 3) := by decide +kernel
theorem dX9_init_92 : decode cX9_init 92 = .ok (.aload_n 0, 1) := by decide +kernel
theorem dX9_init_93 : decode cX9_init 93 = .ok (.new 61, 3) := by decide +kernel
theorem dX9_init_96 : decode cX9_init 96 = .ok (.dup, 1) := by decide +kernel
theorem dX9_init_97 : decode cX9_init 97 = .ok (.invokespecial 63, 3) := by decide +kernel
theorem dX9_init_100 : decode cX9_init 100 = .ok (.putfield 64, 3) := by decide +kernel
theorem dX9_init_103 : decode cX9_init 103 = .ok (.return_, 1) := by decide +kernel
set_option maxHeartbeats 8000000 in
set_option maxRecDepth 100000 in
theorem yc_ClassOfMany {l : Launch} {D : va_G} {cA : Nat → ClassId} {h0 : Nat} : YCt l D cA yX9_init cX9_init 1 3 76 8123 h0 [(h0, .inr (8, [.null, .null, .null, .null, .null, .null, .null, .null, .null]))] (yp_ClassOfMany cA h0) := by
  refine yct (by decide +kernel) (by decide) (fun E hl hD hcA hN hIn hC hR => ?_)
  subst hl; subst hD; subst hcA
  refine yw_aload_n hC dX9_init_0 rfl 0 rfl ?_
  refine yw_obj hC (by decide) dX9_init_1 kw_1_25 kw_1_26 kw_1_27 ?_
  refine yw_aload_n hC dX9_init_4 rfl 0 rfl ?_
  refine yw_new hC (ci := 7) (N := 17) (T := TX8) (C := "ClassOfMany$Told") (fs := [.int 0, .int 0, .null, .null, .null, .null, .null, .null, .int 0, .int 0, .int 0, .int 0, .null, .null, .null, .int 0, .null]) rfl tyX8 tyX8_ok (fun j hj => by match j, hj with | 0, _ => rfl | 1, _ => rfl | 2, _ => rfl | 3, _ => rfl | 4, _ => rfl | 5, _ => rfl | 6, _ => rfl | 7, _ => rfl | 8, _ => rfl | 9, _ => rfl | 10, _ => rfl | 11, _ => rfl | 12, _ => rfl | 13, _ => rfl | 14, _ => rfl | 15, _ => rfl | 16, _ => rfl | k + 17, h => exact absurd h (by omega)) kw_1_28 kw_1_29 kw_1_2 (Nat.le_of_ble_eq_true rfl) (Nat.le_of_ble_eq_true rfl) dX9_init_5 (fun q1 => ?_)
  refine yw_dup hC dX9_init_8 rfl ?_
  refine yw_callN hC (yc_Told (h0 := q1)) kw_1_32 kw_1_2 (by decide +kernel) kw_1_31 rfl (by decide +kernel) (by decide) (by decide) (Nat.le_of_ble_eq_true rfl) dX9_init_9 (Nat.le_of_ble_eq_true rfl) (Nat.le_of_ble_eq_true rfl) (fun u2 => ?_)
  refine yw_put hC (ws' := ([(h0, .inr (8, [.ref q1, .null, .null, .null, .null, .null, .null, .null, .null]))] ++ yp_Told (ycA E) q1 u2)) (ty := .object "ClassOfMany$Told") zF_ClassOfMany_told.1 0 rfl (by decide +kernel) rfl rfl (by decide) kw_2_168 dX9_init_12 rfl ?_
  refine yw_aload_n hC dX9_init_15 rfl 0 rfl ?_
  refine yw_new hC (ci := 6) (N := 12) (T := TX7) (C := "ClassOfMany$Standing") (fs := [.int 0, .int 0, .int 0, .int 0, .int 0, .int 0, .int 0, .int 0, .int 0, .int 0, .int 0, .null]) rfl tyX7 tyX7_ok (fun j hj => by match j, hj with | 0, _ => rfl | 1, _ => rfl | 2, _ => rfl | 3, _ => rfl | 4, _ => rfl | 5, _ => rfl | 6, _ => rfl | 7, _ => rfl | 8, _ => rfl | 9, _ => rfl | 10, _ => rfl | 11, _ => rfl | k + 12, h => exact absurd h (by omega)) kw_1_126 kw_1_127 kw_1_3 (Nat.le_of_ble_eq_true rfl) (Nat.le_of_ble_eq_true rfl) dX9_init_16 (fun q3 => ?_)
  refine yw_dup hC dX9_init_19 rfl ?_
  refine yw_callN hC (yc_Standing (h0 := q3)) kw_1_130 kw_1_3 (by decide +kernel) kw_1_129 rfl (by decide +kernel) (by decide) (by decide) (Nat.le_of_ble_eq_true rfl) dX9_init_20 (Nat.le_of_ble_eq_true rfl) (Nat.le_of_ble_eq_true rfl) (fun u4 => ?_)
  refine yw_putF hC (hIn rfl) (ws' := (([(h0, .inr (8, [.ref q1, .ref q3, .null, .null, .null, .null, .null, .null, .null]))] ++ yp_Told (ycA E) q1 u2) ++ yp_Standing (ycA E) q3 u4)) (ty := .object "ClassOfMany$Standing") zF_ClassOfMany_now.1 0 rfl (by decide +kernel) rfl rfl (by decide) kw_2_169 dX9_init_23 rfl ?_
  refine yw_aload_n hC dX9_init_26 rfl 0 rfl ?_
  refine yw_new hC (ci := 6) (N := 12) (T := TX7) (C := "ClassOfMany$Standing") (fs := [.int 0, .int 0, .int 0, .int 0, .int 0, .int 0, .int 0, .int 0, .int 0, .int 0, .int 0, .null]) rfl tyX7 tyX7_ok (fun j hj => by match j, hj with | 0, _ => rfl | 1, _ => rfl | 2, _ => rfl | 3, _ => rfl | 4, _ => rfl | 5, _ => rfl | 6, _ => rfl | 7, _ => rfl | 8, _ => rfl | 9, _ => rfl | 10, _ => rfl | 11, _ => rfl | k + 12, h => exact absurd h (by omega)) kw_1_126 kw_1_127 kw_1_3 (Nat.le_of_ble_eq_true rfl) (Nat.le_of_ble_eq_true rfl) dX9_init_27 (fun q5 => ?_)
  refine yw_dup hC dX9_init_30 rfl ?_
  refine yw_callN hC (yc_Standing (h0 := q5)) kw_1_130 kw_1_3 (by decide +kernel) kw_1_129 rfl (by decide +kernel) (by decide) (by decide) (Nat.le_of_ble_eq_true rfl) dX9_init_31 (Nat.le_of_ble_eq_true rfl) (Nat.le_of_ble_eq_true rfl) (fun u6 => ?_)
  refine yw_putF hC (hIn rfl) (ws' := ((([(h0, .inr (8, [.ref q1, .ref q3, .ref q5, .null, .null, .null, .null, .null, .null]))] ++ yp_Told (ycA E) q1 u2) ++ yp_Standing (ycA E) q3 u4) ++ yp_Standing (ycA E) q5 u6)) (ty := .object "ClassOfMany$Standing") zF_ClassOfMany_were.1 0 rfl (by decide +kernel) rfl rfl (by decide) kw_2_170 dX9_init_34 rfl ?_
  refine yw_aload_n hC dX9_init_37 rfl 0 rfl ?_
  refine yw_new hC (ci := 0) (N := 3) (T := TX0) (C := "ClassOfMany$Journal") (fs := [.null, .int 0, .int 0]) rfl tyX0 tyX0_ok (fun j hj => by match j, hj with | 0, _ => rfl | 1, _ => rfl | 2, _ => rfl | k + 3, h => exact absurd h (by omega)) kw_1_197 kw_1_198 kw_1_4 (Nat.le_of_ble_eq_true rfl) (Nat.le_of_ble_eq_true rfl) dX9_init_38 (fun q7 => ?_)
  refine yw_dup hC dX9_init_41 rfl ?_
  refine yw_callI hC (yc_Journal (h0 := q7)) kw_1_201 kw_1_4 kw_1_199 kw_1_200 rfl (by decide +kernel) (by decide) (by decide) (Nat.le_of_ble_eq_true rfl) dX9_init_42 (Nat.le_of_ble_eq_true rfl) (Nat.le_of_ble_eq_true rfl) (fun u8 => ?_)
  refine yw_putF hC (hIn rfl) (ws' := (((([(h0, .inr (8, [.ref q1, .ref q3, .ref q5, .ref q7, .null, .null, .null, .null, .null]))] ++ yp_Told (ycA E) q1 u2) ++ yp_Standing (ycA E) q3 u4) ++ yp_Standing (ycA E) q5 u6) ++ yp_Journal (ycA E) q7 u8)) (ty := .object "ClassOfMany$Journal") zF_ClassOfMany_journal.1 0 rfl (by decide +kernel) rfl rfl (by decide) kw_2_171 dX9_init_45 rfl ?_
  refine yw_aload_n hC dX9_init_48 rfl 0 rfl ?_
  refine yw_new hC (ci := 3) (N := 8) (T := TX4) (C := "ClassOfMany$Reader") (fs := [.null, .int 0, .int 0, .int 0, .int 0, .int 0, .null, .null]) rfl tyX4 tyX4_ok (fun j hj => by match j, hj with | 0, _ => rfl | 1, _ => rfl | 2, _ => rfl | 3, _ => rfl | 4, _ => rfl | 5, _ => rfl | 6, _ => rfl | 7, _ => rfl | k + 8, h => exact absurd h (by omega)) kw_1_217 kw_1_218 kw_1_5 (Nat.le_of_ble_eq_true rfl) (Nat.le_of_ble_eq_true rfl) dX9_init_49 (fun q9 => ?_)
  refine yw_dup hC dX9_init_52 rfl ?_
  refine yw_callN hC (yc_Reader (h0 := q9)) kw_1_221 kw_1_5 (by decide +kernel) kw_1_220 rfl (by decide +kernel) (by decide) (by decide) (Nat.le_of_ble_eq_true rfl) dX9_init_53 (Nat.le_of_ble_eq_true rfl) (Nat.le_of_ble_eq_true rfl) (fun u10 => ?_)
  refine yw_putF hC (hIn rfl) (ws' := ((((([(h0, .inr (8, [.ref q1, .ref q3, .ref q5, .ref q7, .ref q9, .null, .null, .null, .null]))] ++ yp_Told (ycA E) q1 u2) ++ yp_Standing (ycA E) q3 u4) ++ yp_Standing (ycA E) q5 u6) ++ yp_Journal (ycA E) q7 u8) ++ yp_Reader (ycA E) q9 u10)) (ty := .object "ClassOfMany$Reader") zF_ClassOfMany_reader.1 0 rfl (by decide +kernel) rfl rfl (by decide) kw_2_172 dX9_init_56 rfl ?_
  refine yw_aload_n hC dX9_init_59 rfl 0 rfl ?_
  refine yw_new hC (ci := 5) (N := 9) (T := TX6) (C := "ClassOfMany$Splitter") (fs := [.int 0, .int 0, .int 0, .null, .null, .int 0, .null, .null, .null]) rfl tyX6 tyX6_ok (fun j hj => by match j, hj with | 0, _ => rfl | 1, _ => rfl | 2, _ => rfl | 3, _ => rfl | 4, _ => rfl | 5, _ => rfl | 6, _ => rfl | 7, _ => rfl | 8, _ => rfl | k + 9, h => exact absurd h (by omega)) kw_2_15 kw_2_16 kw_1_6 (Nat.le_of_ble_eq_true rfl) (Nat.le_of_ble_eq_true rfl) dX9_init_60 (fun q11 => ?_)
  refine yw_dup hC dX9_init_63 rfl ?_
  refine yw_callN hC (yc_Splitter (h0 := q11)) kw_2_19 kw_1_6 (by decide +kernel) kw_2_18 rfl (by decide +kernel) (by decide) (by decide) (Nat.le_of_ble_eq_true rfl) dX9_init_64 (Nat.le_of_ble_eq_true rfl) (Nat.le_of_ble_eq_true rfl) (fun u12 => ?_)
  refine yw_putF hC (hIn rfl) (ws' := (((((([(h0, .inr (8, [.ref q1, .ref q3, .ref q5, .ref q7, .ref q9, .ref q11, .null, .null, .null]))] ++ yp_Told (ycA E) q1 u2) ++ yp_Standing (ycA E) q3 u4) ++ yp_Standing (ycA E) q5 u6) ++ yp_Journal (ycA E) q7 u8) ++ yp_Reader (ycA E) q9 u10) ++ yp_Splitter (ycA E) q11 u12)) (ty := .object "ClassOfMany$Splitter") zF_ClassOfMany_splitter.1 0 rfl (by decide +kernel) rfl rfl (by decide) kw_2_173 dX9_init_67 rfl ?_
  refine yw_aload_n hC dX9_init_70 rfl 0 rfl ?_
  refine yw_new hC (ci := 2) (N := 18) (T := TX3) (C := "ClassOfMany$Payer") (fs := [.null, .null, .null, .null, .null, .null, .null, .int 0, .int 0, .int 0, .int 0, .int 0, .int 0, .int 0, .int 0, .int 0, .int 0, .int 0]) rfl tyX3 tyX3_ok (fun j hj => by match j, hj with | 0, _ => rfl | 1, _ => rfl | 2, _ => rfl | 3, _ => rfl | 4, _ => rfl | 5, _ => rfl | 6, _ => rfl | 7, _ => rfl | 8, _ => rfl | 9, _ => rfl | 10, _ => rfl | 11, _ => rfl | 12, _ => rfl | 13, _ => rfl | 14, _ => rfl | 15, _ => rfl | 16, _ => rfl | 17, _ => rfl | k + 18, h => exact absurd h (by omega)) kw_2_52 kw_2_53 kw_1_7 (Nat.le_of_ble_eq_true rfl) (Nat.le_of_ble_eq_true rfl) dX9_init_71 (fun q13 => ?_)
  refine yw_dup hC dX9_init_74 rfl ?_
  refine yw_callN hC (yc_Payer (h0 := q13)) kw_2_56 kw_1_7 (by decide +kernel) kw_2_55 rfl (by decide +kernel) (by decide) (by decide) (Nat.le_of_ble_eq_true rfl) dX9_init_75 (Nat.le_of_ble_eq_true rfl) (Nat.le_of_ble_eq_true rfl) (fun u14 => ?_)
  refine yw_putF hC (hIn rfl) (ws' := ((((((([(h0, .inr (8, [.ref q1, .ref q3, .ref q5, .ref q7, .ref q9, .ref q11, .ref q13, .null, .null]))] ++ yp_Told (ycA E) q1 u2) ++ yp_Standing (ycA E) q3 u4) ++ yp_Standing (ycA E) q5 u6) ++ yp_Journal (ycA E) q7 u8) ++ yp_Reader (ycA E) q9 u10) ++ yp_Splitter (ycA E) q11 u12) ++ yp_Payer (ycA E) q13 u14)) (ty := .object "ClassOfMany$Payer") zF_ClassOfMany_payer.1 0 rfl (by decide +kernel) rfl rfl (by decide) kw_2_174 dX9_init_78 rfl ?_
  refine yw_aload_n hC dX9_init_81 rfl 0 rfl ?_
  refine yw_new hC (ci := 4) (N := 7) (T := TX5) (C := "ClassOfMany$Resting") (fs := [.int 0, .int 0, .int 0, .int 0, .null, .null, .null]) rfl tyX5 tyX5_ok (fun j hj => by match j, hj with | 0, _ => rfl | 1, _ => rfl | 2, _ => rfl | 3, _ => rfl | 4, _ => rfl | 5, _ => rfl | 6, _ => rfl | k + 7, h => exact absurd h (by omega)) kw_2_124 kw_2_125 kw_1_8 (Nat.le_of_ble_eq_true rfl) (Nat.le_of_ble_eq_true rfl) dX9_init_82 (fun q15 => ?_)
  refine yw_dup hC dX9_init_85 rfl ?_
  refine yw_callN hC (yc_Resting (h0 := q15)) kw_2_128 kw_1_8 (by decide +kernel) kw_2_127 rfl (by decide +kernel) (by decide) (by decide) (Nat.le_of_ble_eq_true rfl) dX9_init_86 (Nat.le_of_ble_eq_true rfl) (Nat.le_of_ble_eq_true rfl) (fun u16 => ?_)
  refine yw_putF hC (hIn rfl) (ws' := (((((((([(h0, .inr (8, [.ref q1, .ref q3, .ref q5, .ref q7, .ref q9, .ref q11, .ref q13, .ref q15, .null]))] ++ yp_Told (ycA E) q1 u2) ++ yp_Standing (ycA E) q3 u4) ++ yp_Standing (ycA E) q5 u6) ++ yp_Journal (ycA E) q7 u8) ++ yp_Reader (ycA E) q9 u10) ++ yp_Splitter (ycA E) q11 u12) ++ yp_Payer (ycA E) q13 u14) ++ yp_Resting (ycA E) q15 u16)) (ty := .object "ClassOfMany$Resting") zF_ClassOfMany_resting.1 0 rfl (by decide +kernel) rfl rfl (by decide) kw_2_175 dX9_init_89 rfl ?_
  refine yw_aload_n hC dX9_init_92 rfl 0 rfl ?_
  refine yw_new hC (ci := 1) (N := 2) (T := TX2) (C := "ClassOfMany$Page") (fs := [.null, .int 0]) rfl tyX2 tyX2_ok (fun j hj => by match j, hj with | 0, _ => rfl | 1, _ => rfl | k + 2, h => exact absurd h (by omega)) kw_2_154 kw_2_155 kw_1_9 (Nat.le_of_ble_eq_true rfl) (Nat.le_of_ble_eq_true rfl) dX9_init_93 (fun q17 => ?_)
  refine yw_dup hC dX9_init_96 rfl ?_
  refine yw_callN hC (yc_Page (h0 := q17)) kw_2_158 kw_1_9 (by decide +kernel) kw_2_157 rfl (by decide +kernel) (by decide) (by decide) (Nat.le_of_ble_eq_true rfl) dX9_init_97 (Nat.le_of_ble_eq_true rfl) (Nat.le_of_ble_eq_true rfl) (fun u18 => ?_)
  refine yw_putF hC (hIn rfl) (ws' := ((((((((([(h0, .inr (8, [.ref q1, .ref q3, .ref q5, .ref q7, .ref q9, .ref q11, .ref q13, .ref q15, .ref q17]))] ++ yp_Told (ycA E) q1 u2) ++ yp_Standing (ycA E) q3 u4) ++ yp_Standing (ycA E) q5 u6) ++ yp_Journal (ycA E) q7 u8) ++ yp_Reader (ycA E) q9 u10) ++ yp_Splitter (ycA E) q11 u12) ++ yp_Payer (ycA E) q13 u14) ++ yp_Resting (ycA E) q15 u16) ++ yp_Page (ycA E) q17 u18)) (ty := .object "ClassOfMany$Page") zF_ClassOfMany_page.1 0 rfl (by decide +kernel) rfl rfl (by decide) kw_2_176 dX9_init_100 rfl ?_
  exact yw_ret hC hR (fun i => [(h0), (q1), (u2 1), (u2 2), (u2 3), (u2 4), (u2 5), (u2 6), (u2 7), (u2 8), (u2 9), (u2 10), (q3), (u4 1), (q5), (u6 1), (q7), (u8 1), (u8 2), (u8 3), (u8 4), (u8 5), (u8 6), (u8 7), (u8 8), (u8 9), (u8 10), (u8 11), (u8 12), (u8 13), (u8 14), (u8 15), (u8 16), (u8 17), (u8 18), (u8 19), (u8 20), (u8 21), (u8 22), (u8 23), (u8 24), (u8 25), (q9), (u10 1), (u10 2), (u10 3), (u10 4), (u10 5), (u10 6), (u10 7), (u10 8), (u10 9), (u10 10), (u10 11), (u10 12), (u10 13), (u10 14), (q11), (u12 1), (u12 2), (u12 3), (u12 4), (u12 5), (q13), (u14 1), (u14 2), (u14 3), (u14 4), (u14 5), (u14 6), (u14 7), (q15), (u16 1), (u16 2), (u16 3), (q17), (u18 1)].getD i 0) rfl dX9_init_103
theorem dX10_init_0 : decode cX10_init 0 = .ok (.aload_n 0, 1) := by decide +kernel
theorem dX10_init_1 : decode cX10_init 1 = .ok (.invokespecial 1, 3) := by decide +kernel
theorem dX10_init_4 : decode cX10_init 4 = .ok (.aload_n 0, 1) := by decide +kernel
theorem dX10_init_5 : decode cX10_init 5 = .ok (.bipush 73, 2) := by decide +kernel
theorem dX10_init_7 : decode cX10_init 7 = .ok (.newarray .int, 2) := by decide +kernel
theorem dX10_init_9 : decode cX10_init 9 = .ok (.putfield 7, 3) := by decide +kernel
theorem dX10_init_12 : decode cX10_init 12 = .ok (.aload_n 0, 1) := by decide +kernel
theorem dX10_init_13 : decode cX10_init 13 = .ok (.bipush 73, 2) := by decide +kernel
theorem dX10_init_15 : decode cX10_init 15 = .ok (.newarray .int, 2) := by decide +kernel
theorem dX10_init_17 : decode cX10_init 17 = .ok (.putfield 13, 3) := by decide +kernel
theorem dX10_init_20 : decode cX10_init 20 = .ok (.aload_n 0, 1) := by decide +kernel
theorem dX10_init_21 : decode cX10_init 21 = .ok (.sipush 876, 3) := by decide +kernel
theorem dX10_init_24 : decode cX10_init 24 = .ok (.newarray .int, 2) := by decide +kernel
theorem dX10_init_26 : decode cX10_init 26 = .ok (.putfield 16, 3) := by decide +kernel
theorem dX10_init_29 : decode cX10_init 29 = .ok (.aload_n 0, 1) := by decide +kernel
theorem dX10_init_30 : decode cX10_init 30 = .ok (.sipush 400, 3) := by decide +kernel
theorem dX10_init_33 : decode cX10_init 33 = .ok (.newarray .int, 2) := by decide +kernel
theorem dX10_init_35 : decode cX10_init 35 = .ok (.putfield 19, 3) := by decide +kernel
theorem dX10_init_38 : decode cX10_init 38 = .ok (.aload_n 0, 1) := by decide +kernel
theorem dX10_init_39 : decode cX10_init 39 = .ok (.sipush 140, 3) := by decide +kernel
theorem dX10_init_42 : decode cX10_init 42 = .ok (.newarray .int, 2) := by decide +kernel
theorem dX10_init_44 : decode cX10_init 44 = .ok (.putfield 22, 3) := by decide +kernel
theorem dX10_init_47 : decode cX10_init 47 = .ok (.aload_n 0, 1) := by decide +kernel
theorem dX10_init_48 : decode cX10_init 48 = .ok (.sipush 140, 3) := by decide +kernel
theorem dX10_init_51 : decode cX10_init 51 = .ok (.newarray .int, 2) := by decide +kernel
theorem dX10_init_53 : decode cX10_init 53 = .ok (.putfield 25, 3) := by decide +kernel
theorem dX10_init_56 : decode cX10_init 56 = .ok (.aload_n 0, 1) := by decide +kernel
theorem dX10_init_57 : decode cX10_init 57 = .ok (.sipush 1120, 3) := by decide +kernel
theorem dX10_init_60 : decode cX10_init 60 = .ok (.newarray .int, 2) := by decide +kernel
theorem dX10_init_62 : decode cX10_init 62 = .ok (.putfield 28, 3) := by decide +kernel
theorem dX10_init_65 : decode cX10_init 65 = .ok (.aload_n 0, 1) := by decide +kernel
theorem dX10_init_66 : decode cX10_init 66 = .ok (.bipush 10, 2) := by decide +kernel
theorem dX10_init_68 : decode cX10_init 68 = .ok (.newarray .int, 2) := by decide +kernel
theorem dX10_init_70 : decode cX10_init 70 = .ok (.putfield 31, 3) := by decide +kernel
theorem dX10_init_73 : decode cX10_init 73 = .ok (.aload_n 0, 1) := by decide +kernel
theorem dX10_init_74 : decode cX10_init 74 = .ok (.bipush 10, 2) := by decide +kernel
theorem dX10_init_76 : decode cX10_init 76 = .ok (.newarray .int, 2) := by decide +kernel
theorem dX10_init_78 : decode cX10_init 78 = .ok (.putfield 34, 3) := by decide +kernel
theorem dX10_init_81 : decode cX10_init 81 = .ok (.aload_n 0, 1) := by decide +kernel
theorem dX10_init_82 : decode cX10_init 82 = .ok (.bipush 90, 2) := by decide +kernel
theorem dX10_init_84 : decode cX10_init 84 = .ok (.newarray .int, 2) := by decide +kernel
theorem dX10_init_86 : decode cX10_init 86 = .ok (.putfield 37, 3) := by decide +kernel
theorem dX10_init_89 : decode cX10_init 89 = .ok (.aload_n 0, 1) := by decide +kernel
theorem dX10_init_90 : decode cX10_init 90 = .ok (.bipush 10, 2) := by decide +kernel
theorem dX10_init_92 : decode cX10_init 92 = .ok (.newarray .int, 2) := by decide +kernel
theorem dX10_init_94 : decode cX10_init 94 = .ok (.putfield 40, 3) := by decide +kernel
theorem dX10_init_97 : decode cX10_init 97 = .ok (.aload_n 0, 1) := by decide +kernel
theorem dX10_init_98 : decode cX10_init 98 = .ok (.bipush 10, 2) := by decide +kernel
theorem dX10_init_100 : decode cX10_init 100 = .ok (.newarray .int, 2) := by decide +kernel
theorem dX10_init_102 : decode cX10_init 102 = .ok (.putfield 43, 3) := by decide +kernel
theorem dX10_init_105 : decode cX10_init 105 = .ok (.aload_n 0, 1) := by decide +kernel
theorem dX10_init_106 : decode cX10_init 106 = .ok (.bipush 10, 2) := by decide +kernel
theorem dX10_init_108 : decode cX10_init 108 = .ok (.newarray .int, 2) := by decide +kernel
theorem dX10_init_110 : decode cX10_init 110 = .ok (.putfield 46, 3) := by decide +kernel
theorem dX10_init_113 : decode cX10_init 113 = .ok (.aload_n 0, 1) := by decide +kernel
theorem dX10_init_114 : decode cX10_init 114 = .ok (.bipush 10, 2) := by decide +kernel
theorem dX10_init_116 : decode cX10_init 116 = .ok (.newarray .int, 2) := by decide +kernel
theorem dX10_init_118 : decode cX10_init 118 = .ok (.putfield 49, 3) := by decide +kernel
theorem dX10_init_121 : decode cX10_init 121 = .ok (.aload_n 0, 1) := by decide +kernel
theorem dX10_init_122 : decode cX10_init 122 = .ok (.sipush 10240, 3) := by decide +kernel
theorem dX10_init_125 : decode cX10_init 125 = .ok (.newarray .int, 2) := by decide +kernel
theorem dX10_init_127 : decode cX10_init 127 = .ok (.putfield 52, 3) := by decide +kernel
theorem dX10_init_130 : decode cX10_init 130 = .ok (.aload_n 0, 1) := by decide +kernel
theorem dX10_init_131 : decode cX10_init 131 = .ok (.sipush 2000, 3) := by decide +kernel
theorem dX10_init_134 : decode cX10_init 134 = .ok (.newarray .int, 2) := by decide +kernel
theorem dX10_init_136 : decode cX10_init 136 = .ok (.putfield 55, 3) := by decide +kernel
theorem dX10_init_139 : decode cX10_init 139 = .ok (.aload_n 0, 1) := by decide +kernel
theorem dX10_init_140 : decode cX10_init 140 = .ok (.invokevirtual 58, 3) := by decide +kernel
theorem dX10_init_143 : decode cX10_init 143 = .ok (.return_, 1) := by decide +kernel
theorem yk_zero (k : Nat) : upd (fun _ => 0) k 0 = (fun _ => 0) := by funext j; unfold upd; split <;> rfl
set_option maxHeartbeats 4000000 in
set_option maxRecDepth 100000 in
theorem yc_anew {l : Launch} {D : va_G} {cA : Nat → ClassId} {h0 q : Nat} {fs : List Value} (hfs : fs[1]? = some (.ref q)) : YCt l D cA yX10_anew cX10_anew 2 1 0 0 h0 [(h0, .inr (9, fs)), (q, .inl (cA 10, 73, .inl (fun _ => 0)))] (fun _ => [(h0, .inr (9, fs)), (q, .inl (cA 10, 73, .inl yk_now))]) := by
  refine yct (by decide +kernel) (by decide) (fun E hl hD hcA hN hIn hC hR => ?_)
  subst hl; subst hD; subst hcA
  refine yw_iconst hC (v := 0) dX10_anew_0 (by decide) ?_
  refine yw_istore_n hC (lv' := [(1, .int (nI 0)), (0, .ref h0)]) dX10_anew_1 rfl hN (by decide) rfl ?_
  have hloop : ∀ (k i : Nat), i + k = 73 → YW E 2 [(1, .int (nI i)), (0, .ref h0)] [] [(h0, .inr (9, fs)), (q, .inl (ycA E 10, 73, .inl (fun _ => 0)))] 0 0 := by
    intro k
    induction k with
    | zero =>
      intro i hi
      obtain rfl : i = 73 := by omega
      refine yw_iload_n hC dX10_anew_2 rfl 0 rfl ?_
      refine yw_bipush hC (v := 73) dX10_anew_3 (by decide) ?_
      refine yw_icmp_ge hC 21 dX10_anew_5 (by decide) (fun _ => ?_) (fun h => absurd (by decide) h)
      refine yw_aload_n hC dX10_anew_21 rfl 1 rfl ?_
      refine yw_get hC (v := .ref q) zF_Model_now.1 0 rfl hfs kw_5_227 dX10_anew_22 ?_
      refine yw_iconst hC (v := 5) dX10_anew_25 (by decide) ?_
      refine yw_bipush hC (v := 99) dX10_anew_26 (by decide) ?_
      refine yw_iast hC (ws' := [(h0, .inr (9, fs)), (q, .inl (ycA E 10, 73, .inl (upd (fun _ => 0) 5 99)))]) 1 rfl (vp_in_nI (n := 5) (by decide) (by decide)) dX10_anew_28 rfl ?_
      refine yw_aload_n hC dX10_anew_29 rfl 1 rfl ?_
      refine yw_get hC (v := .ref q) zF_Model_now.1 0 rfl hfs kw_5_227 dX10_anew_30 ?_
      refine yw_bipush hC (v := 7) dX10_anew_33 (by decide) ?_
      refine yw_bipush hC (v := 99) dX10_anew_35 (by decide) ?_
      refine yw_iast hC (ws' := [(h0, .inr (9, fs)), (q, .inl (ycA E 10, 73, .inl (upd (upd (fun _ => 0) 5 99) 7 99)))]) 1 rfl (vp_in_nI (n := 7) (by decide) (by decide)) dX10_anew_37 rfl ?_
      refine yw_aload_n hC dX10_anew_38 rfl 1 rfl ?_
      refine yw_get hC (v := .ref q) zF_Model_now.1 0 rfl hfs kw_5_227 dX10_anew_39 ?_
      refine yw_bipush hC (v := 11) dX10_anew_42 (by decide) ?_
      refine yw_iconst hC (v := -1) dX10_anew_44 (by decide) ?_
      refine yw_iast hC (ws' := [(h0, .inr (9, fs)), (q, .inl (ycA E 10, 73, .inl yk_now))]) 1 rfl (vp_in_nI (n := 11) (by decide) (by decide)) dX10_anew_45 rfl ?_
      exact yw_ret hC hR (fun _ => 0) rfl dX10_anew_46
    | succ k ih =>
      intro i hi
      refine yw_iload_n hC dX10_anew_2 rfl 0 rfl ?_
      refine yw_bipush hC (v := 73) dX10_anew_3 (by decide) ?_
      refine yw_icmp_ge hC 21 dX10_anew_5 (by decide) (fun h => absurd h (nI_ge (a := i) (b := 73) (by omega) (by decide))) (fun _ => ?_)
      refine yw_aload_n hC dX10_anew_8 rfl 1 rfl ?_
      refine yw_get hC (v := .ref q) zF_Model_now.1 0 rfl hfs kw_5_227 dX10_anew_9 ?_
      refine yw_iload_n hC dX10_anew_12 rfl 0 rfl ?_
      refine yw_iconst hC (v := 0) dX10_anew_13 (by decide) ?_
      refine yw_iast hC (ws' := [(h0, .inr (9, fs)), (q, .inl (ycA E 10, 73, .inl (fun _ => 0)))]) 1 rfl (vp_in_nI (n := i) (by omega) (by decide)) dX10_anew_14 (by rw [yk_zero]; rfl) ?_
      refine yw_iinc hC (lv' := [(1, .int (nI (i + 1))), (0, .ref h0)]) dX10_anew_15 0 rfl (by rw [← nI_1]; rfl) hN (by decide) rfl ?_
      refine yw_goto hC 2 dX10_anew_18 (by decide) ?_
      exact ih (i + 1) (by omega)
  exact hloop 73 0 rfl
set_option maxHeartbeats 8000000 in
set_option maxRecDepth 100000 in
theorem yc_Model {l : Launch} {D : va_G} {cA : Nat → ClassId} {h0 : Nat} : YCt l D cA yX10_init cX10_init 1 2 16 15212 h0 [(h0, .inr (9, [.int 0, .null, .null, .null, .int 0, .null, .int 0, .int 0, .int 0, .int 0, .int 0, .int 0, .int 0, .null, .null, .null, .int 0, .int 0, .int 0, .null, .int 0, .int 0, .int 0, .int 0, .int 0, .int 0, .null, .null, .int 0, .int 0, .null, .null, .null, .null, .null, .null, .int 0]))] (yp_Model cA h0) := by
  refine yct (by decide +kernel) (by decide) (fun E hl hD hcA hN hIn hC hR => ?_)
  subst hl; subst hD; subst hcA
  refine yw_aload_n hC dX10_init_0 rfl 0 rfl ?_
  refine yw_obj hC (by decide) dX10_init_1 kw_5_222 kw_1_26 kw_1_27 ?_
  refine yw_aload_n hC dX10_init_4 rfl 0 rfl ?_
  refine yw_bipush hC (v := 73) dX10_init_5 (by decide) ?_
  refine yw_newa hC (atype := .int) (ty := .int) (t0 := 0) (c0 := ycA E 10) (N := 73) kw_1_125 rfl rfl yo_int (fun _ => rfl) (by decide) (by decide) (by decide) (Nat.le_of_ble_eq_true rfl) (Nat.le_of_ble_eq_true rfl) dX10_init_7 (fun q1 => ?_)
  refine yw_putF hC (hIn rfl) (ws' := ([(h0, .inr (9, [.int 0, .ref q1, .null, .null, .int 0, .null, .int 0, .int 0, .int 0, .int 0, .int 0, .int 0, .int 0, .null, .null, .null, .int 0, .int 0, .int 0, .null, .int 0, .int 0, .int 0, .int 0, .int 0, .int 0, .null, .null, .int 0, .int 0, .null, .null, .null, .null, .null, .null, .int 0]))] ++ [(q1, .inl (ycA E 10, 73, .inl (fun _ => 0)))])) (ty := .array .int) zF_Model_now.1 0 rfl (by decide +kernel) rfl rfl (by decide) kw_5_227 dX10_init_9 rfl ?_
  refine yw_aload_n hC dX10_init_12 rfl 0 rfl ?_
  refine yw_bipush hC (v := 73) dX10_init_13 (by decide) ?_
  refine yw_newa hC (atype := .int) (ty := .int) (t0 := 0) (c0 := ycA E 10) (N := 73) kw_1_125 rfl rfl yo_int (fun _ => rfl) (by decide) (by decide) (by decide) (Nat.le_of_ble_eq_true rfl) (Nat.le_of_ble_eq_true rfl) dX10_init_15 (fun q2 => ?_)
  refine yw_putF hC (hIn rfl) (ws' := (([(h0, .inr (9, [.int 0, .ref q1, .ref q2, .null, .int 0, .null, .int 0, .int 0, .int 0, .int 0, .int 0, .int 0, .int 0, .null, .null, .null, .int 0, .int 0, .int 0, .null, .int 0, .int 0, .int 0, .int 0, .int 0, .int 0, .null, .null, .int 0, .int 0, .null, .null, .null, .null, .null, .null, .int 0]))] ++ [(q1, .inl (ycA E 10, 73, .inl (fun _ => 0)))]) ++ [(q2, .inl (ycA E 10, 73, .inl (fun _ => 0)))])) (ty := .array .int) zF_Model_aside.1 0 rfl (by decide +kernel) rfl rfl (by decide) kw_5_228 dX10_init_17 rfl ?_
  refine yw_aload_n hC dX10_init_20 rfl 0 rfl ?_
  refine yw_sipush hC (v := 876) dX10_init_21 (by decide) ?_
  refine yw_newa hC (atype := .int) (ty := .int) (t0 := 0) (c0 := ycA E 10) (N := 876) kw_1_125 rfl rfl yo_int (fun _ => rfl) (by decide) (by decide) (by decide) (Nat.le_of_ble_eq_true rfl) (Nat.le_of_ble_eq_true rfl) dX10_init_24 (fun q3 => ?_)
  refine yw_putF hC (hIn rfl) (ws' := ((([(h0, .inr (9, [.int 0, .ref q1, .ref q2, .ref q3, .int 0, .null, .int 0, .int 0, .int 0, .int 0, .int 0, .int 0, .int 0, .null, .null, .null, .int 0, .int 0, .int 0, .null, .int 0, .int 0, .int 0, .int 0, .int 0, .int 0, .null, .null, .int 0, .int 0, .null, .null, .null, .null, .null, .null, .int 0]))] ++ [(q1, .inl (ycA E 10, 73, .inl (fun _ => 0)))]) ++ [(q2, .inl (ycA E 10, 73, .inl (fun _ => 0)))]) ++ [(q3, .inl (ycA E 10, 876, .inl (fun _ => 0)))])) (ty := .array .int) zF_Model_undos.1 0 rfl (by decide +kernel) rfl rfl (by decide) kw_5_229 dX10_init_26 rfl ?_
  refine yw_aload_n hC dX10_init_29 rfl 0 rfl ?_
  refine yw_sipush hC (v := 400) dX10_init_30 (by decide) ?_
  refine yw_newa hC (atype := .int) (ty := .int) (t0 := 0) (c0 := ycA E 10) (N := 400) kw_1_125 rfl rfl yo_int (fun _ => rfl) (by decide) (by decide) (by decide) (Nat.le_of_ble_eq_true rfl) (Nat.le_of_ble_eq_true rfl) dX10_init_33 (fun q4 => ?_)
  refine yw_putF hC (hIn rfl) (ws' := (((([(h0, .inr (9, [.int 0, .ref q1, .ref q2, .ref q3, .int 0, .ref q4, .int 0, .int 0, .int 0, .int 0, .int 0, .int 0, .int 0, .null, .null, .null, .int 0, .int 0, .int 0, .null, .int 0, .int 0, .int 0, .int 0, .int 0, .int 0, .null, .null, .int 0, .int 0, .null, .null, .null, .null, .null, .null, .int 0]))] ++ [(q1, .inl (ycA E 10, 73, .inl (fun _ => 0)))]) ++ [(q2, .inl (ycA E 10, 73, .inl (fun _ => 0)))]) ++ [(q3, .inl (ycA E 10, 876, .inl (fun _ => 0)))]) ++ [(q4, .inl (ycA E 10, 400, .inl (fun _ => 0)))])) (ty := .array .int) zF_Model_tape.1 0 rfl (by decide +kernel) rfl rfl (by decide) kw_5_231 dX10_init_35 rfl ?_
  refine yw_aload_n hC dX10_init_38 rfl 0 rfl ?_
  refine yw_sipush hC (v := 140) dX10_init_39 (by decide) ?_
  refine yw_newa hC (atype := .int) (ty := .int) (t0 := 0) (c0 := ycA E 10) (N := 140) kw_1_125 rfl rfl yo_int (fun _ => rfl) (by decide) (by decide) (by decide) (Nat.le_of_ble_eq_true rfl) (Nat.le_of_ble_eq_true rfl) dX10_init_42 (fun q5 => ?_)
  refine yw_putF hC (hIn rfl) (ws' := ((((([(h0, .inr (9, [.int 0, .ref q1, .ref q2, .ref q3, .int 0, .ref q4, .int 0, .int 0, .int 0, .int 0, .int 0, .int 0, .int 0, .ref q5, .null, .null, .int 0, .int 0, .int 0, .null, .int 0, .int 0, .int 0, .int 0, .int 0, .int 0, .null, .null, .int 0, .int 0, .null, .null, .null, .null, .null, .null, .int 0]))] ++ [(q1, .inl (ycA E 10, 73, .inl (fun _ => 0)))]) ++ [(q2, .inl (ycA E 10, 73, .inl (fun _ => 0)))]) ++ [(q3, .inl (ycA E 10, 876, .inl (fun _ => 0)))]) ++ [(q4, .inl (ycA E 10, 400, .inl (fun _ => 0)))]) ++ [(q5, .inl (ycA E 10, 140, .inl (fun _ => 0)))])) (ty := .array .int) zF_Model_lineSort.1 0 rfl (by decide +kernel) rfl rfl (by decide) kw_5_239 dX10_init_44 rfl ?_
  refine yw_aload_n hC dX10_init_47 rfl 0 rfl ?_
  refine yw_sipush hC (v := 140) dX10_init_48 (by decide) ?_
  refine yw_newa hC (atype := .int) (ty := .int) (t0 := 0) (c0 := ycA E 10) (N := 140) kw_1_125 rfl rfl yo_int (fun _ => rfl) (by decide) (by decide) (by decide) (Nat.le_of_ble_eq_true rfl) (Nat.le_of_ble_eq_true rfl) dX10_init_51 (fun q6 => ?_)
  refine yw_putF hC (hIn rfl) (ws' := (((((([(h0, .inr (9, [.int 0, .ref q1, .ref q2, .ref q3, .int 0, .ref q4, .int 0, .int 0, .int 0, .int 0, .int 0, .int 0, .int 0, .ref q5, .ref q6, .null, .int 0, .int 0, .int 0, .null, .int 0, .int 0, .int 0, .int 0, .int 0, .int 0, .null, .null, .int 0, .int 0, .null, .null, .null, .null, .null, .null, .int 0]))] ++ [(q1, .inl (ycA E 10, 73, .inl (fun _ => 0)))]) ++ [(q2, .inl (ycA E 10, 73, .inl (fun _ => 0)))]) ++ [(q3, .inl (ycA E 10, 876, .inl (fun _ => 0)))]) ++ [(q4, .inl (ycA E 10, 400, .inl (fun _ => 0)))]) ++ [(q5, .inl (ycA E 10, 140, .inl (fun _ => 0)))]) ++ [(q6, .inl (ycA E 10, 140, .inl (fun _ => 0)))])) (ty := .array .int) zF_Model_lineMany.1 0 rfl (by decide +kernel) rfl rfl (by decide) kw_6_0 dX10_init_53 rfl ?_
  refine yw_aload_n hC dX10_init_56 rfl 0 rfl ?_
  refine yw_sipush hC (v := 1120) dX10_init_57 (by decide) ?_
  refine yw_newa hC (atype := .int) (ty := .int) (t0 := 0) (c0 := ycA E 10) (N := 1120) kw_1_125 rfl rfl yo_int (fun _ => rfl) (by decide) (by decide) (by decide) (Nat.le_of_ble_eq_true rfl) (Nat.le_of_ble_eq_true rfl) dX10_init_60 (fun q7 => ?_)
  refine yw_putF hC (hIn rfl) (ws' := ((((((([(h0, .inr (9, [.int 0, .ref q1, .ref q2, .ref q3, .int 0, .ref q4, .int 0, .int 0, .int 0, .int 0, .int 0, .int 0, .int 0, .ref q5, .ref q6, .ref q7, .int 0, .int 0, .int 0, .null, .int 0, .int 0, .int 0, .int 0, .int 0, .int 0, .null, .null, .int 0, .int 0, .null, .null, .null, .null, .null, .null, .int 0]))] ++ [(q1, .inl (ycA E 10, 73, .inl (fun _ => 0)))]) ++ [(q2, .inl (ycA E 10, 73, .inl (fun _ => 0)))]) ++ [(q3, .inl (ycA E 10, 876, .inl (fun _ => 0)))]) ++ [(q4, .inl (ycA E 10, 400, .inl (fun _ => 0)))]) ++ [(q5, .inl (ycA E 10, 140, .inl (fun _ => 0)))]) ++ [(q6, .inl (ycA E 10, 140, .inl (fun _ => 0)))]) ++ [(q7, .inl (ycA E 10, 1120, .inl (fun _ => 0)))])) (ty := .array .int) zF_Model_lineN.1 0 rfl (by decide +kernel) rfl rfl (by decide) kw_6_1 dX10_init_62 rfl ?_
  refine yw_aload_n hC dX10_init_65 rfl 0 rfl ?_
  refine yw_bipush hC (v := 10) dX10_init_66 (by decide) ?_
  refine yw_newa hC (atype := .int) (ty := .int) (t0 := 0) (c0 := ycA E 10) (N := 10) kw_1_125 rfl rfl yo_int (fun _ => rfl) (by decide) (by decide) (by decide) (Nat.le_of_ble_eq_true rfl) (Nat.le_of_ble_eq_true rfl) dX10_init_68 (fun q8 => ?_)
  refine yw_putF hC (hIn rfl) (ws' := (((((((([(h0, .inr (9, [.int 0, .ref q1, .ref q2, .ref q3, .int 0, .ref q4, .int 0, .int 0, .int 0, .int 0, .int 0, .int 0, .int 0, .ref q5, .ref q6, .ref q7, .int 0, .int 0, .int 0, .ref q8, .int 0, .int 0, .int 0, .int 0, .int 0, .int 0, .null, .null, .int 0, .int 0, .null, .null, .null, .null, .null, .null, .int 0]))] ++ [(q1, .inl (ycA E 10, 73, .inl (fun _ => 0)))]) ++ [(q2, .inl (ycA E 10, 73, .inl (fun _ => 0)))]) ++ [(q3, .inl (ycA E 10, 876, .inl (fun _ => 0)))]) ++ [(q4, .inl (ycA E 10, 400, .inl (fun _ => 0)))]) ++ [(q5, .inl (ycA E 10, 140, .inl (fun _ => 0)))]) ++ [(q6, .inl (ycA E 10, 140, .inl (fun _ => 0)))]) ++ [(q7, .inl (ycA E 10, 1120, .inl (fun _ => 0)))]) ++ [(q8, .inl (ycA E 10, 10, .inl (fun _ => 0)))])) (ty := .array .int) zF_Model_part.1 0 rfl (by decide +kernel) rfl rfl (by decide) kw_6_5 dX10_init_70 rfl ?_
  refine yw_aload_n hC dX10_init_73 rfl 0 rfl ?_
  refine yw_bipush hC (v := 10) dX10_init_74 (by decide) ?_
  refine yw_newa hC (atype := .int) (ty := .int) (t0 := 0) (c0 := ycA E 10) (N := 10) kw_1_125 rfl rfl yo_int (fun _ => rfl) (by decide) (by decide) (by decide) (Nat.le_of_ble_eq_true rfl) (Nat.le_of_ble_eq_true rfl) dX10_init_76 (fun q9 => ?_)
  refine yw_putF hC (hIn rfl) (ws' := ((((((((([(h0, .inr (9, [.int 0, .ref q1, .ref q2, .ref q3, .int 0, .ref q4, .int 0, .int 0, .int 0, .int 0, .int 0, .int 0, .int 0, .ref q5, .ref q6, .ref q7, .int 0, .int 0, .int 0, .ref q8, .int 0, .int 0, .int 0, .int 0, .int 0, .int 0, .ref q9, .null, .int 0, .int 0, .null, .null, .null, .null, .null, .null, .int 0]))] ++ [(q1, .inl (ycA E 10, 73, .inl (fun _ => 0)))]) ++ [(q2, .inl (ycA E 10, 73, .inl (fun _ => 0)))]) ++ [(q3, .inl (ycA E 10, 876, .inl (fun _ => 0)))]) ++ [(q4, .inl (ycA E 10, 400, .inl (fun _ => 0)))]) ++ [(q5, .inl (ycA E 10, 140, .inl (fun _ => 0)))]) ++ [(q6, .inl (ycA E 10, 140, .inl (fun _ => 0)))]) ++ [(q7, .inl (ycA E 10, 1120, .inl (fun _ => 0)))]) ++ [(q8, .inl (ycA E 10, 10, .inl (fun _ => 0)))]) ++ [(q9, .inl (ycA E 10, 10, .inl (fun _ => 0)))])) (ty := .array .int) zF_Model_paid.1 0 rfl (by decide +kernel) rfl rfl (by decide) kw_6_12 dX10_init_78 rfl ?_
  refine yw_aload_n hC dX10_init_81 rfl 0 rfl ?_
  refine yw_bipush hC (v := 90) dX10_init_82 (by decide) ?_
  refine yw_newa hC (atype := .int) (ty := .int) (t0 := 0) (c0 := ycA E 10) (N := 90) kw_1_125 rfl rfl yo_int (fun _ => rfl) (by decide) (by decide) (by decide) (Nat.le_of_ble_eq_true rfl) (Nat.le_of_ble_eq_true rfl) dX10_init_84 (fun q10 => ?_)
  refine yw_putF hC (hIn rfl) (ws' := (((((((((([(h0, .inr (9, [.int 0, .ref q1, .ref q2, .ref q3, .int 0, .ref q4, .int 0, .int 0, .int 0, .int 0, .int 0, .int 0, .int 0, .ref q5, .ref q6, .ref q7, .int 0, .int 0, .int 0, .ref q8, .int 0, .int 0, .int 0, .int 0, .int 0, .int 0, .ref q9, .ref q10, .int 0, .int 0, .null, .null, .null, .null, .null, .null, .int 0]))] ++ [(q1, .inl (ycA E 10, 73, .inl (fun _ => 0)))]) ++ [(q2, .inl (ycA E 10, 73, .inl (fun _ => 0)))]) ++ [(q3, .inl (ycA E 10, 876, .inl (fun _ => 0)))]) ++ [(q4, .inl (ycA E 10, 400, .inl (fun _ => 0)))]) ++ [(q5, .inl (ycA E 10, 140, .inl (fun _ => 0)))]) ++ [(q6, .inl (ycA E 10, 140, .inl (fun _ => 0)))]) ++ [(q7, .inl (ycA E 10, 1120, .inl (fun _ => 0)))]) ++ [(q8, .inl (ycA E 10, 10, .inl (fun _ => 0)))]) ++ [(q9, .inl (ycA E 10, 10, .inl (fun _ => 0)))]) ++ [(q10, .inl (ycA E 10, 90, .inl (fun _ => 0)))])) (ty := .array .int) zF_Model_hadIn.1 0 rfl (by decide +kernel) rfl rfl (by decide) kw_6_13 dX10_init_86 rfl ?_
  refine yw_aload_n hC dX10_init_89 rfl 0 rfl ?_
  refine yw_bipush hC (v := 10) dX10_init_90 (by decide) ?_
  refine yw_newa hC (atype := .int) (ty := .int) (t0 := 0) (c0 := ycA E 10) (N := 10) kw_1_125 rfl rfl yo_int (fun _ => rfl) (by decide) (by decide) (by decide) (Nat.le_of_ble_eq_true rfl) (Nat.le_of_ble_eq_true rfl) dX10_init_92 (fun q11 => ?_)
  refine yw_putF hC (hIn rfl) (ws' := ((((((((((([(h0, .inr (9, [.int 0, .ref q1, .ref q2, .ref q3, .int 0, .ref q4, .int 0, .int 0, .int 0, .int 0, .int 0, .int 0, .int 0, .ref q5, .ref q6, .ref q7, .int 0, .int 0, .int 0, .ref q8, .int 0, .int 0, .int 0, .int 0, .int 0, .int 0, .ref q9, .ref q10, .int 0, .int 0, .ref q11, .null, .null, .null, .null, .null, .int 0]))] ++ [(q1, .inl (ycA E 10, 73, .inl (fun _ => 0)))]) ++ [(q2, .inl (ycA E 10, 73, .inl (fun _ => 0)))]) ++ [(q3, .inl (ycA E 10, 876, .inl (fun _ => 0)))]) ++ [(q4, .inl (ycA E 10, 400, .inl (fun _ => 0)))]) ++ [(q5, .inl (ycA E 10, 140, .inl (fun _ => 0)))]) ++ [(q6, .inl (ycA E 10, 140, .inl (fun _ => 0)))]) ++ [(q7, .inl (ycA E 10, 1120, .inl (fun _ => 0)))]) ++ [(q8, .inl (ycA E 10, 10, .inl (fun _ => 0)))]) ++ [(q9, .inl (ycA E 10, 10, .inl (fun _ => 0)))]) ++ [(q10, .inl (ycA E 10, 90, .inl (fun _ => 0)))]) ++ [(q11, .inl (ycA E 10, 10, .inl (fun _ => 0)))])) (ty := .array .int) zF_Model_pots.1 0 rfl (by decide +kernel) rfl rfl (by decide) kw_6_16 dX10_init_94 rfl ?_
  refine yw_aload_n hC dX10_init_97 rfl 0 rfl ?_
  refine yw_bipush hC (v := 10) dX10_init_98 (by decide) ?_
  refine yw_newa hC (atype := .int) (ty := .int) (t0 := 0) (c0 := ycA E 10) (N := 10) kw_1_125 rfl rfl yo_int (fun _ => rfl) (by decide) (by decide) (by decide) (Nat.le_of_ble_eq_true rfl) (Nat.le_of_ble_eq_true rfl) dX10_init_100 (fun q12 => ?_)
  refine yw_putF hC (hIn rfl) (ws' := (((((((((((([(h0, .inr (9, [.int 0, .ref q1, .ref q2, .ref q3, .int 0, .ref q4, .int 0, .int 0, .int 0, .int 0, .int 0, .int 0, .int 0, .ref q5, .ref q6, .ref q7, .int 0, .int 0, .int 0, .ref q8, .int 0, .int 0, .int 0, .int 0, .int 0, .int 0, .ref q9, .ref q10, .int 0, .int 0, .ref q11, .ref q12, .null, .null, .null, .null, .int 0]))] ++ [(q1, .inl (ycA E 10, 73, .inl (fun _ => 0)))]) ++ [(q2, .inl (ycA E 10, 73, .inl (fun _ => 0)))]) ++ [(q3, .inl (ycA E 10, 876, .inl (fun _ => 0)))]) ++ [(q4, .inl (ycA E 10, 400, .inl (fun _ => 0)))]) ++ [(q5, .inl (ycA E 10, 140, .inl (fun _ => 0)))]) ++ [(q6, .inl (ycA E 10, 140, .inl (fun _ => 0)))]) ++ [(q7, .inl (ycA E 10, 1120, .inl (fun _ => 0)))]) ++ [(q8, .inl (ycA E 10, 10, .inl (fun _ => 0)))]) ++ [(q9, .inl (ycA E 10, 10, .inl (fun _ => 0)))]) ++ [(q10, .inl (ycA E 10, 90, .inl (fun _ => 0)))]) ++ [(q11, .inl (ycA E 10, 10, .inl (fun _ => 0)))]) ++ [(q12, .inl (ycA E 10, 10, .inl (fun _ => 0)))])) (ty := .array .int) zF_Model_potClaims.1 0 rfl (by decide +kernel) rfl rfl (by decide) kw_6_17 dX10_init_102 rfl ?_
  refine yw_aload_n hC dX10_init_105 rfl 0 rfl ?_
  refine yw_bipush hC (v := 10) dX10_init_106 (by decide) ?_
  refine yw_newa hC (atype := .int) (ty := .int) (t0 := 0) (c0 := ycA E 10) (N := 10) kw_1_125 rfl rfl yo_int (fun _ => rfl) (by decide) (by decide) (by decide) (Nat.le_of_ble_eq_true rfl) (Nat.le_of_ble_eq_true rfl) dX10_init_108 (fun q13 => ?_)
  refine yw_putF hC (hIn rfl) (ws' := ((((((((((((([(h0, .inr (9, [.int 0, .ref q1, .ref q2, .ref q3, .int 0, .ref q4, .int 0, .int 0, .int 0, .int 0, .int 0, .int 0, .int 0, .ref q5, .ref q6, .ref q7, .int 0, .int 0, .int 0, .ref q8, .int 0, .int 0, .int 0, .int 0, .int 0, .int 0, .ref q9, .ref q10, .int 0, .int 0, .ref q11, .ref q12, .ref q13, .null, .null, .null, .int 0]))] ++ [(q1, .inl (ycA E 10, 73, .inl (fun _ => 0)))]) ++ [(q2, .inl (ycA E 10, 73, .inl (fun _ => 0)))]) ++ [(q3, .inl (ycA E 10, 876, .inl (fun _ => 0)))]) ++ [(q4, .inl (ycA E 10, 400, .inl (fun _ => 0)))]) ++ [(q5, .inl (ycA E 10, 140, .inl (fun _ => 0)))]) ++ [(q6, .inl (ycA E 10, 140, .inl (fun _ => 0)))]) ++ [(q7, .inl (ycA E 10, 1120, .inl (fun _ => 0)))]) ++ [(q8, .inl (ycA E 10, 10, .inl (fun _ => 0)))]) ++ [(q9, .inl (ycA E 10, 10, .inl (fun _ => 0)))]) ++ [(q10, .inl (ycA E 10, 90, .inl (fun _ => 0)))]) ++ [(q11, .inl (ycA E 10, 10, .inl (fun _ => 0)))]) ++ [(q12, .inl (ycA E 10, 10, .inl (fun _ => 0)))]) ++ [(q13, .inl (ycA E 10, 10, .inl (fun _ => 0)))])) (ty := .array .int) zF_Model_who.1 0 rfl (by decide +kernel) rfl rfl (by decide) kw_6_18 dX10_init_110 rfl ?_
  refine yw_aload_n hC dX10_init_113 rfl 0 rfl ?_
  refine yw_bipush hC (v := 10) dX10_init_114 (by decide) ?_
  refine yw_newa hC (atype := .int) (ty := .int) (t0 := 0) (c0 := ycA E 10) (N := 10) kw_1_125 rfl rfl yo_int (fun _ => rfl) (by decide) (by decide) (by decide) (Nat.le_of_ble_eq_true rfl) (Nat.le_of_ble_eq_true rfl) dX10_init_116 (fun q14 => ?_)
  refine yw_putF hC (hIn rfl) (ws' := (((((((((((((([(h0, .inr (9, [.int 0, .ref q1, .ref q2, .ref q3, .int 0, .ref q4, .int 0, .int 0, .int 0, .int 0, .int 0, .int 0, .int 0, .ref q5, .ref q6, .ref q7, .int 0, .int 0, .int 0, .ref q8, .int 0, .int 0, .int 0, .int 0, .int 0, .int 0, .ref q9, .ref q10, .int 0, .int 0, .ref q11, .ref q12, .ref q13, .ref q14, .null, .null, .int 0]))] ++ [(q1, .inl (ycA E 10, 73, .inl (fun _ => 0)))]) ++ [(q2, .inl (ycA E 10, 73, .inl (fun _ => 0)))]) ++ [(q3, .inl (ycA E 10, 876, .inl (fun _ => 0)))]) ++ [(q4, .inl (ycA E 10, 400, .inl (fun _ => 0)))]) ++ [(q5, .inl (ycA E 10, 140, .inl (fun _ => 0)))]) ++ [(q6, .inl (ycA E 10, 140, .inl (fun _ => 0)))]) ++ [(q7, .inl (ycA E 10, 1120, .inl (fun _ => 0)))]) ++ [(q8, .inl (ycA E 10, 10, .inl (fun _ => 0)))]) ++ [(q9, .inl (ycA E 10, 10, .inl (fun _ => 0)))]) ++ [(q10, .inl (ycA E 10, 90, .inl (fun _ => 0)))]) ++ [(q11, .inl (ycA E 10, 10, .inl (fun _ => 0)))]) ++ [(q12, .inl (ycA E 10, 10, .inl (fun _ => 0)))]) ++ [(q13, .inl (ycA E 10, 10, .inl (fun _ => 0)))]) ++ [(q14, .inl (ycA E 10, 10, .inl (fun _ => 0)))])) (ty := .array .int) zF_Model_its.1 0 rfl (by decide +kernel) rfl rfl (by decide) kw_6_19 dX10_init_118 rfl ?_
  refine yw_aload_n hC dX10_init_121 rfl 0 rfl ?_
  refine yw_sipush hC (v := 10240) dX10_init_122 (by decide) ?_
  refine yw_newa hC (atype := .int) (ty := .int) (t0 := 0) (c0 := ycA E 10) (N := 10240) kw_1_125 rfl rfl yo_int (fun _ => rfl) (by decide) (by decide) (by decide) (Nat.le_of_ble_eq_true rfl) (Nat.le_of_ble_eq_true rfl) dX10_init_125 (fun q15 => ?_)
  refine yw_putF hC (hIn rfl) (ws' := ((((((((((((((([(h0, .inr (9, [.int 0, .ref q1, .ref q2, .ref q3, .int 0, .ref q4, .int 0, .int 0, .int 0, .int 0, .int 0, .int 0, .int 0, .ref q5, .ref q6, .ref q7, .int 0, .int 0, .int 0, .ref q8, .int 0, .int 0, .int 0, .int 0, .int 0, .int 0, .ref q9, .ref q10, .int 0, .int 0, .ref q11, .ref q12, .ref q13, .ref q14, .ref q15, .null, .int 0]))] ++ [(q1, .inl (ycA E 10, 73, .inl (fun _ => 0)))]) ++ [(q2, .inl (ycA E 10, 73, .inl (fun _ => 0)))]) ++ [(q3, .inl (ycA E 10, 876, .inl (fun _ => 0)))]) ++ [(q4, .inl (ycA E 10, 400, .inl (fun _ => 0)))]) ++ [(q5, .inl (ycA E 10, 140, .inl (fun _ => 0)))]) ++ [(q6, .inl (ycA E 10, 140, .inl (fun _ => 0)))]) ++ [(q7, .inl (ycA E 10, 1120, .inl (fun _ => 0)))]) ++ [(q8, .inl (ycA E 10, 10, .inl (fun _ => 0)))]) ++ [(q9, .inl (ycA E 10, 10, .inl (fun _ => 0)))]) ++ [(q10, .inl (ycA E 10, 90, .inl (fun _ => 0)))]) ++ [(q11, .inl (ycA E 10, 10, .inl (fun _ => 0)))]) ++ [(q12, .inl (ycA E 10, 10, .inl (fun _ => 0)))]) ++ [(q13, .inl (ycA E 10, 10, .inl (fun _ => 0)))]) ++ [(q14, .inl (ycA E 10, 10, .inl (fun _ => 0)))]) ++ [(q15, .inl (ycA E 10, 10240, .inl (fun _ => 0)))])) (ty := .array .int) zF_Model_table.1 0 rfl (by decide +kernel) rfl rfl (by decide) kw_6_20 dX10_init_127 rfl ?_
  refine yw_aload_n hC dX10_init_130 rfl 0 rfl ?_
  refine yw_sipush hC (v := 2000) dX10_init_131 (by decide) ?_
  refine yw_newa hC (atype := .int) (ty := .int) (t0 := 0) (c0 := ycA E 10) (N := 2000) kw_1_125 rfl rfl yo_int (fun _ => rfl) (by decide) (by decide) (by decide) (Nat.le_of_ble_eq_true rfl) (Nat.le_of_ble_eq_true rfl) dX10_init_134 (fun q16 => ?_)
  refine yw_putF hC (hIn rfl) (ws' := (((((((((((((((([(h0, .inr (9, [.int 0, .ref q1, .ref q2, .ref q3, .int 0, .ref q4, .int 0, .int 0, .int 0, .int 0, .int 0, .int 0, .int 0, .ref q5, .ref q6, .ref q7, .int 0, .int 0, .int 0, .ref q8, .int 0, .int 0, .int 0, .int 0, .int 0, .int 0, .ref q9, .ref q10, .int 0, .int 0, .ref q11, .ref q12, .ref q13, .ref q14, .ref q15, .ref q16, .int 0]))] ++ [(q1, .inl (ycA E 10, 73, .inl (fun _ => 0)))]) ++ [(q2, .inl (ycA E 10, 73, .inl (fun _ => 0)))]) ++ [(q3, .inl (ycA E 10, 876, .inl (fun _ => 0)))]) ++ [(q4, .inl (ycA E 10, 400, .inl (fun _ => 0)))]) ++ [(q5, .inl (ycA E 10, 140, .inl (fun _ => 0)))]) ++ [(q6, .inl (ycA E 10, 140, .inl (fun _ => 0)))]) ++ [(q7, .inl (ycA E 10, 1120, .inl (fun _ => 0)))]) ++ [(q8, .inl (ycA E 10, 10, .inl (fun _ => 0)))]) ++ [(q9, .inl (ycA E 10, 10, .inl (fun _ => 0)))]) ++ [(q10, .inl (ycA E 10, 90, .inl (fun _ => 0)))]) ++ [(q11, .inl (ycA E 10, 10, .inl (fun _ => 0)))]) ++ [(q12, .inl (ycA E 10, 10, .inl (fun _ => 0)))]) ++ [(q13, .inl (ycA E 10, 10, .inl (fun _ => 0)))]) ++ [(q14, .inl (ycA E 10, 10, .inl (fun _ => 0)))]) ++ [(q15, .inl (ycA E 10, 10240, .inl (fun _ => 0)))]) ++ [(q16, .inl (ycA E 10, 2000, .inl (fun _ => 0)))])) (ty := .array .int) zF_Model_spelt.1 0 rfl (by decide +kernel) rfl rfl (by decide) kw_6_21 dX10_init_136 rfl ?_
  refine yw_aload_n hC dX10_init_139 rfl 0 rfl ?_
  refine yw_perm (ws' := [(q2, .inl (ycA E 10, 73, .inl (fun _ => 0))), (q3, .inl (ycA E 10, 876, .inl (fun _ => 0))), (q4, .inl (ycA E 10, 400, .inl (fun _ => 0))), (q5, .inl (ycA E 10, 140, .inl (fun _ => 0))), (q6, .inl (ycA E 10, 140, .inl (fun _ => 0))), (q7, .inl (ycA E 10, 1120, .inl (fun _ => 0))), (q8, .inl (ycA E 10, 10, .inl (fun _ => 0))), (q9, .inl (ycA E 10, 10, .inl (fun _ => 0))), (q10, .inl (ycA E 10, 90, .inl (fun _ => 0))), (q11, .inl (ycA E 10, 10, .inl (fun _ => 0))), (q12, .inl (ycA E 10, 10, .inl (fun _ => 0))), (q13, .inl (ycA E 10, 10, .inl (fun _ => 0))), (q14, .inl (ycA E 10, 10, .inl (fun _ => 0))), (q15, .inl (ycA E 10, 10240, .inl (fun _ => 0))), (q16, .inl (ycA E 10, 2000, .inl (fun _ => 0)))] ++ [(h0, .inr (9, [.int 0, .ref q1, .ref q2, .ref q3, .int 0, .ref q4, .int 0, .int 0, .int 0, .int 0, .int 0, .int 0, .int 0, .ref q5, .ref q6, .ref q7, .int 0, .int 0, .int 0, .ref q8, .int 0, .int 0, .int 0, .int 0, .int 0, .int 0, .ref q9, .ref q10, .int 0, .int 0, .ref q11, .ref q12, .ref q13, .ref q14, .ref q15, .ref q16, .int 0])), (q1, .inl (ycA E 10, 73, .inl (fun _ => 0)))]) [2, 3, 4, 5, 6, 7, 8, 9, 10, 11, 12, 13, 14, 15, 16, 0, 1] (by decide) rfl ?_
  refine yw_callV hC (yc_anew (h0 := h0) (q := q1) (fs := [.int 0, .ref q1, .ref q2, .ref q3, .int 0, .ref q4, .int 0, .int 0, .int 0, .int 0, .int 0, .int 0, .int 0, .ref q5, .ref q6, .ref q7, .int 0, .int 0, .int 0, .ref q8, .int 0, .int 0, .int 0, .int 0, .int 0, .int 0, .ref q9, .ref q10, .int 0, .int 0, .ref q11, .ref q12, .ref q13, .ref q14, .ref q15, .ref q16, .int 0]) rfl) zm_X10_anew 0 rfl rfl kw_5_223 (by decide) (Nat.le_of_ble_eq_true rfl) dX10_init_140 (Nat.le_of_ble_eq_true rfl) (Nat.le_of_ble_eq_true rfl) (fun u17 => ?_)
  refine yw_perm (ws' := (((((((((((((((([(h0, .inr (9, [.int 0, .ref q1, .ref q2, .ref q3, .int 0, .ref q4, .int 0, .int 0, .int 0, .int 0, .int 0, .int 0, .int 0, .ref q5, .ref q6, .ref q7, .int 0, .int 0, .int 0, .ref q8, .int 0, .int 0, .int 0, .int 0, .int 0, .int 0, .ref q9, .ref q10, .int 0, .int 0, .ref q11, .ref q12, .ref q13, .ref q14, .ref q15, .ref q16, .int 0]))] ++ [(q1, .inl (ycA E 10, 73, .inl (yk_now)))]) ++ [(q2, .inl (ycA E 10, 73, .inl (fun _ => 0)))]) ++ [(q3, .inl (ycA E 10, 876, .inl (fun _ => 0)))]) ++ [(q4, .inl (ycA E 10, 400, .inl (fun _ => 0)))]) ++ [(q5, .inl (ycA E 10, 140, .inl (fun _ => 0)))]) ++ [(q6, .inl (ycA E 10, 140, .inl (fun _ => 0)))]) ++ [(q7, .inl (ycA E 10, 1120, .inl (fun _ => 0)))]) ++ [(q8, .inl (ycA E 10, 10, .inl (fun _ => 0)))]) ++ [(q9, .inl (ycA E 10, 10, .inl (fun _ => 0)))]) ++ [(q10, .inl (ycA E 10, 90, .inl (fun _ => 0)))]) ++ [(q11, .inl (ycA E 10, 10, .inl (fun _ => 0)))]) ++ [(q12, .inl (ycA E 10, 10, .inl (fun _ => 0)))]) ++ [(q13, .inl (ycA E 10, 10, .inl (fun _ => 0)))]) ++ [(q14, .inl (ycA E 10, 10, .inl (fun _ => 0)))]) ++ [(q15, .inl (ycA E 10, 10240, .inl (fun _ => 0)))]) ++ [(q16, .inl (ycA E 10, 2000, .inl (fun _ => 0)))])) [15, 16, 0, 1, 2, 3, 4, 5, 6, 7, 8, 9, 10, 11, 12, 13, 14] (by decide) rfl ?_
  exact yw_ret hC hR (fun i => [(h0), (q1), (q2), (q3), (q4), (q5), (q6), (q7), (q8), (q9), (q10), (q11), (q12), (q13), (q14), (q15), (q16)].getD i 0) rfl dX10_init_143
