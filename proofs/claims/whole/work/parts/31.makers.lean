/-! the constructors -/
theorem yo_int (s : State) (a b : ClassId) : va_RA s a .int → va_RA s b .int → a = b := fun h g => Option.some.inj (h.symm.trans g)
theorem yo_byte (s : State) (a b : ClassId) : va_RA s a .byte → va_RA s b .byte → a = b := fun h g => Option.some.inj (h.symm.trans g)
theorem yo_boolean (s : State) (a b : ClassId) : va_RA s a .boolean → va_RA s b .boolean → a = b := fun h g => Option.some.inj (h.symm.trans g)
def yp_Told (cA : Nat → ClassId) (h0 : Nat) (u : Nat → Nat) : va_W := (((((((((([(h0, .inr (7, [.int 0, .int 0, .ref (u 1), .ref (u 2), .ref (u 3), .ref (u 4), .ref (u 5), .ref (u 6), .int 0, .int 0, .int 99, .int 0, .ref (u 7), .ref (u 8), .ref (u 9), .int 0, .ref (u 10)]))] ++ [(u 1, .inl (cA 10, 10, .inl (fun _ => 0)))]) ++ [(u 2, .inl (cA 10, 10, .inl (fun _ => 0)))]) ++ [(u 3, .inl (cA 10, 10, .inl (fun _ => 0)))]) ++ [(u 4, .inl (cA 10, 10, .inl (fun _ => 0)))]) ++ [(u 5, .inl (cA 10, 4, .inl (fun _ => 0)))]) ++ [(u 6, .inl (cA 10, 4, .inl (fun _ => 0)))]) ++ [(u 7, .inl (cA 10, 80, .inl (fun _ => 0)))]) ++ [(u 8, .inl (cA 10, 80, .inl (fun _ => 0)))]) ++ [(u 9, .inl (cA 10, 80, .inl (fun _ => 0)))]) ++ [(u 10, .inl (cA 10, 200, .inl (fun _ => 0)))])
def yp_Standing (cA : Nat → ClassId) (h0 : Nat) (u : Nat → Nat) : va_W := ([(h0, .inr (6, [.int 0, .int 0, .int (-2), .int 0, .int 0, .int 0, .int 0, .int 0, .int 0, .int 0, .int 99, .ref (u 1)]))] ++ [(u 1, .inl (cA 10, 10, .inl (fun _ => 0)))])
def yp_Journal (cA : Nat → ClassId) (h0 : Nat) (u : Nat → Nat) : va_W := ((((((((((((([(h0, .inr (0, [.ref (u 1), .int 0, .int 0]))] ++ [(u 1, .inl (cA 13, 12, .inr (.inr (.inr (.inr (fun j => if j < 12 then some (u (2 + 2 * j)) else none))))))]) ++ yp_Standing cA (u 2) (fun i => u (2 + i))) ++ yp_Standing cA (u 4) (fun i => u (4 + i))) ++ yp_Standing cA (u 6) (fun i => u (6 + i))) ++ yp_Standing cA (u 8) (fun i => u (8 + i))) ++ yp_Standing cA (u 10) (fun i => u (10 + i))) ++ yp_Standing cA (u 12) (fun i => u (12 + i))) ++ yp_Standing cA (u 14) (fun i => u (14 + i))) ++ yp_Standing cA (u 16) (fun i => u (16 + i))) ++ yp_Standing cA (u 18) (fun i => u (18 + i))) ++ yp_Standing cA (u 20) (fun i => u (20 + i))) ++ yp_Standing cA (u 22) (fun i => u (22 + i))) ++ yp_Standing cA (u 24) (fun i => u (24 + i)))
def yq_Reader (cA : Nat → ClassId) (h0 : Nat) (p_tape : Nat) (p_told : Nat) (u_told : (Nat → Nat)) (p_standing : Nat) (u_standing : (Nat → Nat)) : va_W := ((([(h0, .inr (3, [.ref p_tape, .int 0, .int 0, .int 0, .int 0, .int 0, .ref p_told, .ref p_standing]))] ++ [(p_tape, .inl (cA 10, 400, .inl (fun _ => 0)))]) ++ yp_Told cA p_told u_told) ++ yp_Standing cA p_standing u_standing)
def yp_Reader (cA : Nat → ClassId) (h0 : Nat) (s : (Nat × Nat × (Nat → Nat) × Nat × (Nat → Nat))) : va_W := yq_Reader cA h0 (s.1) (s.2.1) (s.2.2.1) (s.2.2.2.1) (s.2.2.2.2)
def yp_Splitter (cA : Nat → ClassId) (h0 : Nat) (u : Nat → Nat) : va_W := ((((([(h0, .inr (5, [.int 0, .int 0, .int 0, .ref (u 1), .ref (u 2), .int 0, .ref (u 3), .ref (u 4), .ref (u 5)]))] ++ [(u 1, .inl (cA 10, 10, .inl (fun _ => 0)))]) ++ [(u 2, .inl (cA 10, 10, .inl (fun _ => 0)))]) ++ [(u 3, .inl (cA 12, 1024, .inl (fun _ => 0)))]) ++ [(u 4, .inl (cA 10, 1024, .inl (fun _ => 0)))]) ++ [(u 5, .inl (cA 10, 1024, .inl (fun _ => 0)))])
def yp_Payer (cA : Nat → ClassId) (h0 : Nat) (u : Nat → Nat) : va_W := ((((((([(h0, .inr (2, [.ref (u 1), .ref (u 2), .ref (u 3), .ref (u 4), .ref (u 5), .ref (u 6), .ref (u 7), .int 0, .int 0, .int 0, .int 0, .int 0, .int 0, .int 0, .int 0, .int 0, .int 0, .int 0]))] ++ [(u 1, .inl (cA 10, 10, .inl (fun _ => 0)))]) ++ [(u 2, .inl (cA 10, 10, .inl (fun _ => 0)))]) ++ [(u 3, .inl (cA 10, 10, .inl (fun _ => 0)))]) ++ [(u 4, .inl (cA 10, 10, .inl (fun _ => 0)))]) ++ [(u 5, .inl (cA 10, 10, .inl (fun _ => 0)))]) ++ [(u 6, .inl (cA 10, 10, .inl (fun _ => 0)))]) ++ [(u 7, .inl (cA 10, 90, .inl (fun _ => 0)))])
def yp_Resting (cA : Nat → ClassId) (h0 : Nat) (u : Nat → Nat) : va_W := ((([(h0, .inr (4, [.int 0, .int 0, .int 0, .int 0, .ref (u 1), .ref (u 2), .ref (u 3)]))] ++ [(u 1, .inl (cA 10, 1024, .inl (fun _ => 0)))]) ++ [(u 2, .inl (cA 10, 1024, .inl (fun _ => 0)))]) ++ [(u 3, .inl (cA 10, 10, .inl (fun _ => 0)))])
def yp_Page (cA : Nat → ClassId) (h0 : Nat) (u : Nat → Nat) : va_W := ([(h0, .inr (1, [.ref (u 1), .int 0]))] ++ [(u 1, .inl (cA 11, 1024, .inl (fun _ => 0)))])
def yq_ClassOfMany (cA : Nat → ClassId) (h0 : Nat) (p_told : Nat) (u_told : (Nat → Nat)) (p_now : Nat) (u_now : (Nat → Nat)) (p_were : Nat) (u_were : (Nat → Nat)) (p_journal : Nat) (u_journal : (Nat → Nat)) (p_reader : Nat) (u_reader : (Nat × Nat × (Nat → Nat) × Nat × (Nat → Nat))) (p_splitter : Nat) (u_splitter : (Nat → Nat)) (p_payer : Nat) (u_payer : (Nat → Nat)) (p_resting : Nat) (u_resting : (Nat → Nat)) (p_page : Nat) (u_page : (Nat → Nat)) : va_W := ((((((((([(h0, .inr (8, [.ref p_told, .ref p_now, .ref p_were, .ref p_journal, .ref p_reader, .ref p_splitter, .ref p_payer, .ref p_resting, .ref p_page]))] ++ yp_Told cA p_told u_told) ++ yp_Standing cA p_now u_now) ++ yp_Standing cA p_were u_were) ++ yp_Journal cA p_journal u_journal) ++ yp_Reader cA p_reader u_reader) ++ yp_Splitter cA p_splitter u_splitter) ++ yp_Payer cA p_payer u_payer) ++ yp_Resting cA p_resting u_resting) ++ yp_Page cA p_page u_page)
def yp_ClassOfMany (cA : Nat → ClassId) (h0 : Nat) (s : (Nat × (Nat → Nat) × Nat × (Nat → Nat) × Nat × (Nat → Nat) × Nat × (Nat → Nat) × Nat × (Nat × Nat × (Nat → Nat) × Nat × (Nat → Nat)) × Nat × (Nat → Nat) × Nat × (Nat → Nat) × Nat × (Nat → Nat) × Nat × (Nat → Nat))) : va_W := yq_ClassOfMany cA h0 (s.1) (s.2.1) (s.2.2.1) (s.2.2.2.1) (s.2.2.2.2.1) (s.2.2.2.2.2.1) (s.2.2.2.2.2.2.1) (s.2.2.2.2.2.2.2.1) (s.2.2.2.2.2.2.2.2.1) (s.2.2.2.2.2.2.2.2.2.1) (s.2.2.2.2.2.2.2.2.2.2.1) (s.2.2.2.2.2.2.2.2.2.2.2.1) (s.2.2.2.2.2.2.2.2.2.2.2.2.1) (s.2.2.2.2.2.2.2.2.2.2.2.2.2.1) (s.2.2.2.2.2.2.2.2.2.2.2.2.2.2.1) (s.2.2.2.2.2.2.2.2.2.2.2.2.2.2.2.1) (s.2.2.2.2.2.2.2.2.2.2.2.2.2.2.2.2.1) (s.2.2.2.2.2.2.2.2.2.2.2.2.2.2.2.2.2)
def yk_now : Nat → Int32 := upd (upd (upd (fun _ => 0) 5 99) 7 99) 11 (-1)
def yp_Model (cA : Nat → ClassId) (h0 : Nat) (u : Nat → Nat) : va_W := (((((((((((((((([(h0, .inr (9, [.int 0, .ref (u 1), .ref (u 2), .ref (u 3), .int 0, .ref (u 4), .int 0, .int 0, .int 0, .int 0, .int 0, .int 0, .int 0, .ref (u 5), .ref (u 6), .ref (u 7), .int 0, .int 0, .int 0, .ref (u 8), .int 0, .int 0, .int 0, .int 0, .int 0, .int 0, .ref (u 9), .ref (u 10), .int 0, .int 0, .ref (u 11), .ref (u 12), .ref (u 13), .ref (u 14), .ref (u 15), .ref (u 16), .int 0]))] ++ [(u 1, .inl (cA 10, 73, .inl (yk_now)))]) ++ [(u 2, .inl (cA 10, 73, .inl (fun _ => 0)))]) ++ [(u 3, .inl (cA 10, 876, .inl (fun _ => 0)))]) ++ [(u 4, .inl (cA 10, 400, .inl (fun _ => 0)))]) ++ [(u 5, .inl (cA 10, 140, .inl (fun _ => 0)))]) ++ [(u 6, .inl (cA 10, 140, .inl (fun _ => 0)))]) ++ [(u 7, .inl (cA 10, 1120, .inl (fun _ => 0)))]) ++ [(u 8, .inl (cA 10, 10, .inl (fun _ => 0)))]) ++ [(u 9, .inl (cA 10, 10, .inl (fun _ => 0)))]) ++ [(u 10, .inl (cA 10, 90, .inl (fun _ => 0)))]) ++ [(u 11, .inl (cA 10, 10, .inl (fun _ => 0)))]) ++ [(u 12, .inl (cA 10, 10, .inl (fun _ => 0)))]) ++ [(u 13, .inl (cA 10, 10, .inl (fun _ => 0)))]) ++ [(u 14, .inl (cA 10, 10, .inl (fun _ => 0)))]) ++ [(u 15, .inl (cA 10, 10240, .inl (fun _ => 0)))]) ++ [(u 16, .inl (cA 10, 2000, .inl (fun _ => 0)))])
theorem dX8_init_0 : decode cX8_init 0 = .ok (.aload_n 0, 1) := by decide +kernel
theorem dX8_init_1 : decode cX8_init 1 = .ok (.invokespecial 3, 3) := by decide +kernel
theorem dX8_init_4 : decode cX8_init 4 = .ok (.aload_n 0, 1) := by decide +kernel
theorem dX8_init_5 : decode cX8_init 5 = .ok (.bipush 10, 2) := by decide +kernel
theorem dX8_init_7 : decode cX8_init 7 = .ok (.newarray .int, 2) := by decide +kernel
theorem dX8_init_9 : decode cX8_init 9 = .ok (.putfield 9, 3) := by decide +kernel
theorem dX8_init_12 : decode cX8_init 12 = .ok (.aload_n 0, 1) := by decide +kernel
theorem dX8_init_13 : decode cX8_init 13 = .ok (.bipush 10, 2) := by decide +kernel
theorem dX8_init_15 : decode cX8_init 15 = .ok (.newarray .int, 2) := by decide +kernel
theorem dX8_init_17 : decode cX8_init 17 = .ok (.putfield 15, 3) := by decide +kernel
theorem dX8_init_20 : decode cX8_init 20 = .ok (.aload_n 0, 1) := by decide +kernel
theorem dX8_init_21 : decode cX8_init 21 = .ok (.bipush 10, 2) := by decide +kernel
theorem dX8_init_23 : decode cX8_init 23 = .ok (.newarray .int, 2) := by decide +kernel
theorem dX8_init_25 : decode cX8_init 25 = .ok (.putfield 18, 3) := by decide +kernel
theorem dX8_init_28 : decode cX8_init 28 = .ok (.aload_n 0, 1) := by decide +kernel
theorem dX8_init_29 : decode cX8_init 29 = .ok (.bipush 10, 2) := by decide +kernel
theorem dX8_init_31 : decode cX8_init 31 = .ok (.newarray .int, 2) := by decide +kernel
theorem dX8_init_33 : decode cX8_init 33 = .ok (.putfield 21, 3) := by decide +kernel
theorem dX8_init_36 : decode cX8_init 36 = .ok (.aload_n 0, 1) := by decide +kernel
theorem dX8_init_37 : decode cX8_init 37 = .ok (.iconst 4, 1) := by decide +kernel
theorem dX8_init_38 : decode cX8_init 38 = .ok (.newarray .int, 2) := by decide +kernel
theorem dX8_init_40 : decode cX8_init 40 = .ok (.putfield 24, 3) := by decide +kernel
theorem dX8_init_43 : decode cX8_init 43 = .ok (.aload_n 0, 1) := by decide +kernel
theorem dX8_init_44 : decode cX8_init 44 = .ok (.iconst 4, 1) := by decide +kernel
theorem dX8_init_45 : decode cX8_init 45 = .ok (.newarray .int, 2) := by decide +kernel
theorem dX8_init_47 : decode cX8_init 47 = .ok (.putfield 27, 3) := by decide +kernel
theorem dX8_init_50 : decode cX8_init 50 = .ok (.aload_n 0, 1) := by decide +kernel
theorem dX8_init_51 : decode cX8_init 51 = .ok (.bipush 99, 2) := by decide +kernel
theorem dX8_init_53 : decode cX8_init 53 = .ok (.putfield 30, 3) := by decide +kernel
theorem dX8_init_56 : decode cX8_init 56 = .ok (.aload_n 0, 1) := by decide +kernel
theorem dX8_init_57 : decode cX8_init 57 = .ok (.bipush 80, 2) := by decide +kernel
theorem dX8_init_59 : decode cX8_init 59 = .ok (.newarray .int, 2) := by decide +kernel
theorem dX8_init_61 : decode cX8_init 61 = .ok (.putfield 34, 3) := by decide +kernel
theorem dX8_init_64 : decode cX8_init 64 = .ok (.aload_n 0, 1) := by decide +kernel
theorem dX8_init_65 : decode cX8_init 65 = .ok (.bipush 80, 2) := by decide +kernel
theorem dX8_init_67 : decode cX8_init 67 = .ok (.newarray .int, 2) := by decide +kernel
theorem dX8_init_69 : decode cX8_init 69 = .ok (.putfield 37, 3) := by decide +kernel
theorem dX8_init_72 : decode cX8_init 72 = .ok (.aload_n 0, 1) := by decide +kernel
theorem dX8_init_73 : decode cX8_init 73 = .ok (.bipush 80, 2) := by decide +kernel
theorem dX8_init_75 : decode cX8_init 75 = .ok (.newarray .int, 2) := by decide +kernel
theorem dX8_init_77 : decode cX8_init 77 = .ok (.putfield 40, 3) := by decide +kernel
theorem dX8_init_80 : decode cX8_init 80 = .ok (.aload_n 0, 1) := by decide +kernel
theorem dX8_init_81 : decode cX8_init 81 = .ok (.sipush 200, 3) := by decide +kernel
theorem dX8_init_84 : decode cX8_init 84 = .ok (.newarray .int, 2) := by decide +kernel
theorem dX8_init_86 : decode cX8_init 86 = .ok (.putfield 43, 3) := by decide +kernel
theorem dX8_init_89 : decode cX8_init 89 = .ok (.return_, 1) := by decide +kernel
set_option maxHeartbeats 8000000 in
set_option maxRecDepth 100000 in
theorem yc_Told {l : Launch} {D : va_G} {cA : Nat → ClassId} {h0 : Nat} : YCt l D cA yX8_init cX8_init 1 1 10 488 h0 [(h0, .inr (7, [.int 0, .int 0, .null, .null, .null, .null, .null, .null, .int 0, .int 0, .int 0, .int 0, .null, .null, .null, .int 0, .null]))] (yp_Told cA h0) := by
  refine yct (by decide +kernel) (by decide) (fun E hl hD hcA hN hIn hC hR => ?_)
  subst hl; subst hD; subst hcA
  refine yw_aload_n hC dX8_init_0 rfl 0 rfl ?_
  refine yw_obj hC (by decide) dX8_init_1 kw_1_33 kw_1_26 kw_1_27 ?_
  refine yw_aload_n hC dX8_init_4 rfl 0 rfl ?_
  refine yw_bipush hC (v := 10) dX8_init_5 (by decide) ?_
  refine yw_newa hC (atype := .int) (ty := .int) (t0 := 0) (c0 := ycA E 10) (N := 10) kw_1_125 rfl rfl yo_int (fun _ => rfl) (by decide) (by decide) (by decide) (Nat.le_of_ble_eq_true rfl) (Nat.le_of_ble_eq_true rfl) dX8_init_7 (fun q1 => ?_)
  refine yw_putF hC (hIn rfl) (ws' := ([(h0, .inr (7, [.int 0, .int 0, .ref q1, .null, .null, .null, .null, .null, .int 0, .int 0, .int 0, .int 0, .null, .null, .null, .int 0, .null]))] ++ [(q1, .inl (ycA E 10, 10, .inl (fun _ => 0)))])) (ty := .array .int) zF_Told_from.1 0 (yget yg1) (by decide +kernel) rfl rfl (Nat.le_of_ble_eq_true rfl) kw_1_45 dX8_init_9 (yset ys1 yl1) ?_
  refine yw_aload_n hC dX8_init_12 rfl 0 rfl ?_
  refine yw_bipush hC (v := 10) dX8_init_13 (by decide) ?_
  refine yw_newa hC (atype := .int) (ty := .int) (t0 := 0) (c0 := ycA E 10) (N := 10) kw_1_125 rfl rfl yo_int (fun _ => rfl) (by decide) (by decide) (by decide) (Nat.le_of_ble_eq_true rfl) (Nat.le_of_ble_eq_true rfl) dX8_init_15 (fun q2 => ?_)
  refine yw_putF hC (hIn rfl) (ws' := (([(h0, .inr (7, [.int 0, .int 0, .ref q1, .ref q2, .null, .null, .null, .null, .int 0, .int 0, .int 0, .int 0, .null, .null, .null, .int 0, .null]))] ++ [(q1, .inl (ycA E 10, 10, .inl (fun _ => 0)))]) ++ [(q2, .inl (ycA E 10, 10, .inl (fun _ => 0)))])) (ty := .array .int) zF_Told_to.1 0 (yget (yget yg1)) (by decide +kernel) rfl rfl (Nat.le_of_ble_eq_true rfl) kw_1_49 dX8_init_17 (yset (yset ys1 yl1) (ylen yl1)) ?_
  refine yw_aload_n hC dX8_init_20 rfl 0 rfl ?_
  refine yw_bipush hC (v := 10) dX8_init_21 (by decide) ?_
  refine yw_newa hC (atype := .int) (ty := .int) (t0 := 0) (c0 := ycA E 10) (N := 10) kw_1_125 rfl rfl yo_int (fun _ => rfl) (by decide) (by decide) (by decide) (Nat.le_of_ble_eq_true rfl) (Nat.le_of_ble_eq_true rfl) dX8_init_23 (fun q3 => ?_)
  refine yw_putF hC (hIn rfl) (ws' := ((([(h0, .inr (7, [.int 0, .int 0, .ref q1, .ref q2, .ref q3, .null, .null, .null, .int 0, .int 0, .int 0, .int 0, .null, .null, .null, .int 0, .null]))] ++ [(q1, .inl (ycA E 10, 10, .inl (fun _ => 0)))]) ++ [(q2, .inl (ycA E 10, 10, .inl (fun _ => 0)))]) ++ [(q3, .inl (ycA E 10, 10, .inl (fun _ => 0)))])) (ty := .array .int) zF_Told_rate.1 0 (yget (yget (yget yg1))) (by decide +kernel) rfl rfl (Nat.le_of_ble_eq_true rfl) kw_1_53 dX8_init_25 (yset (yset (yset ys1 yl1) (ylen yl1)) (ylen (ylen yl1))) ?_
  refine yw_aload_n hC dX8_init_28 rfl 0 rfl ?_
  refine yw_bipush hC (v := 10) dX8_init_29 (by decide) ?_
  refine yw_newa hC (atype := .int) (ty := .int) (t0 := 0) (c0 := ycA E 10) (N := 10) kw_1_125 rfl rfl yo_int (fun _ => rfl) (by decide) (by decide) (by decide) (Nat.le_of_ble_eq_true rfl) (Nat.le_of_ble_eq_true rfl) dX8_init_31 (fun q4 => ?_)
  refine yw_putF hC (hIn rfl) (ws' := (((([(h0, .inr (7, [.int 0, .int 0, .ref q1, .ref q2, .ref q3, .ref q4, .null, .null, .int 0, .int 0, .int 0, .int 0, .null, .null, .null, .int 0, .null]))] ++ [(q1, .inl (ycA E 10, 10, .inl (fun _ => 0)))]) ++ [(q2, .inl (ycA E 10, 10, .inl (fun _ => 0)))]) ++ [(q3, .inl (ycA E 10, 10, .inl (fun _ => 0)))]) ++ [(q4, .inl (ycA E 10, 10, .inl (fun _ => 0)))])) (ty := .array .int) zF_Told_reach.1 0 (yget (yget (yget (yget yg1)))) (by decide +kernel) rfl rfl (Nat.le_of_ble_eq_true rfl) kw_1_57 dX8_init_33 (yset (yset (yset (yset ys1 yl1) (ylen yl1)) (ylen (ylen yl1))) (ylen (ylen (ylen yl1)))) ?_
  refine yw_aload_n hC dX8_init_36 rfl 0 rfl ?_
  refine yw_iconst hC (v := 4) dX8_init_37 (by decide) ?_
  refine yw_newa hC (atype := .int) (ty := .int) (t0 := 0) (c0 := ycA E 10) (N := 4) kw_1_125 rfl rfl yo_int (fun _ => rfl) (by decide) (by decide) (by decide) (Nat.le_of_ble_eq_true rfl) (Nat.le_of_ble_eq_true rfl) dX8_init_38 (fun q5 => ?_)
  refine yw_putF hC (hIn rfl) (ws' := ((((([(h0, .inr (7, [.int 0, .int 0, .ref q1, .ref q2, .ref q3, .ref q4, .ref q5, .null, .int 0, .int 0, .int 0, .int 0, .null, .null, .null, .int 0, .null]))] ++ [(q1, .inl (ycA E 10, 10, .inl (fun _ => 0)))]) ++ [(q2, .inl (ycA E 10, 10, .inl (fun _ => 0)))]) ++ [(q3, .inl (ycA E 10, 10, .inl (fun _ => 0)))]) ++ [(q4, .inl (ycA E 10, 10, .inl (fun _ => 0)))]) ++ [(q5, .inl (ycA E 10, 4, .inl (fun _ => 0)))])) (ty := .array .int) zF_Told_cost.1 0 (yget (yget (yget (yget (yget yg1))))) (by decide +kernel) rfl rfl (Nat.le_of_ble_eq_true rfl) kw_1_61 dX8_init_40 (yset (yset (yset (yset (yset ys1 yl1) (ylen yl1)) (ylen (ylen yl1))) (ylen (ylen (ylen yl1)))) (ylen (ylen (ylen (ylen yl1))))) ?_
  refine yw_aload_n hC dX8_init_43 rfl 0 rfl ?_
  refine yw_iconst hC (v := 4) dX8_init_44 (by decide) ?_
  refine yw_newa hC (atype := .int) (ty := .int) (t0 := 0) (c0 := ycA E 10) (N := 4) kw_1_125 rfl rfl yo_int (fun _ => rfl) (by decide) (by decide) (by decide) (Nat.le_of_ble_eq_true rfl) (Nat.le_of_ble_eq_true rfl) dX8_init_45 (fun q6 => ?_)
  refine yw_putF hC (hIn rfl) (ws' := (((((([(h0, .inr (7, [.int 0, .int 0, .ref q1, .ref q2, .ref q3, .ref q4, .ref q5, .ref q6, .int 0, .int 0, .int 0, .int 0, .null, .null, .null, .int 0, .null]))] ++ [(q1, .inl (ycA E 10, 10, .inl (fun _ => 0)))]) ++ [(q2, .inl (ycA E 10, 10, .inl (fun _ => 0)))]) ++ [(q3, .inl (ycA E 10, 10, .inl (fun _ => 0)))]) ++ [(q4, .inl (ycA E 10, 10, .inl (fun _ => 0)))]) ++ [(q5, .inl (ycA E 10, 4, .inl (fun _ => 0)))]) ++ [(q6, .inl (ycA E 10, 4, .inl (fun _ => 0)))])) (ty := .array .int) zF_Told_wait.1 0 (yget (yget (yget (yget (yget (yget yg1)))))) (by decide +kernel) rfl rfl (Nat.le_of_ble_eq_true rfl) kw_1_65 dX8_init_47 (yset (yset (yset (yset (yset (yset ys1 yl1) (ylen yl1)) (ylen (ylen yl1))) (ylen (ylen (ylen yl1)))) (ylen (ylen (ylen (ylen yl1))))) (ylen (ylen (ylen (ylen (ylen yl1)))))) ?_
  refine yw_aload_n hC dX8_init_50 rfl 0 rfl ?_
  refine yw_bipush hC (v := 99) dX8_init_51 (by decide) ?_
  refine yw_put hC (ws' := (((((([(h0, .inr (7, [.int 0, .int 0, .ref q1, .ref q2, .ref q3, .ref q4, .ref q5, .ref q6, .int 0, .int 0, .int 99, .int 0, .null, .null, .null, .int 0, .null]))] ++ [(q1, .inl (ycA E 10, 10, .inl (fun _ => 0)))]) ++ [(q2, .inl (ycA E 10, 10, .inl (fun _ => 0)))]) ++ [(q3, .inl (ycA E 10, 10, .inl (fun _ => 0)))]) ++ [(q4, .inl (ycA E 10, 10, .inl (fun _ => 0)))]) ++ [(q5, .inl (ycA E 10, 4, .inl (fun _ => 0)))]) ++ [(q6, .inl (ycA E 10, 4, .inl (fun _ => 0)))])) (ty := .int) zF_Told_till.1 0 (yget (yget (yget (yget (yget (yget yg1)))))) (by decide +kernel) rfl rfl (Nat.le_of_ble_eq_true rfl) kw_1_76 dX8_init_53 (yset (yset (yset (yset (yset (yset ys1 yl1) (ylen yl1)) (ylen (ylen yl1))) (ylen (ylen (ylen yl1)))) (ylen (ylen (ylen (ylen yl1))))) (ylen (ylen (ylen (ylen (ylen yl1)))))) ?_
  refine yw_aload_n hC dX8_init_56 rfl 0 rfl ?_
  refine yw_bipush hC (v := 80) dX8_init_57 (by decide) ?_
  refine yw_newa hC (atype := .int) (ty := .int) (t0 := 0) (c0 := ycA E 10) (N := 80) kw_1_125 rfl rfl yo_int (fun _ => rfl) (by decide) (by decide) (by decide) (Nat.le_of_ble_eq_true rfl) (Nat.le_of_ble_eq_true rfl) dX8_init_59 (fun q7 => ?_)
  refine yw_putF hC (hIn rfl) (ws' := ((((((([(h0, .inr (7, [.int 0, .int 0, .ref q1, .ref q2, .ref q3, .ref q4, .ref q5, .ref q6, .int 0, .int 0, .int 99, .int 0, .ref q7, .null, .null, .int 0, .null]))] ++ [(q1, .inl (ycA E 10, 10, .inl (fun _ => 0)))]) ++ [(q2, .inl (ycA E 10, 10, .inl (fun _ => 0)))]) ++ [(q3, .inl (ycA E 10, 10, .inl (fun _ => 0)))]) ++ [(q4, .inl (ycA E 10, 10, .inl (fun _ => 0)))]) ++ [(q5, .inl (ycA E 10, 4, .inl (fun _ => 0)))]) ++ [(q6, .inl (ycA E 10, 4, .inl (fun _ => 0)))]) ++ [(q7, .inl (ycA E 10, 80, .inl (fun _ => 0)))])) (ty := .array .int) zF_Told_sorts.1 0 (yget (yget (yget (yget (yget (yget (yget yg1))))))) (by decide +kernel) rfl rfl (Nat.le_of_ble_eq_true rfl) kw_1_81 dX8_init_61 (yset (yset (yset (yset (yset (yset (yset ys1 yl1) (ylen yl1)) (ylen (ylen yl1))) (ylen (ylen (ylen yl1)))) (ylen (ylen (ylen (ylen yl1))))) (ylen (ylen (ylen (ylen (ylen yl1)))))) (ylen (ylen (ylen (ylen (ylen (ylen yl1))))))) ?_
  refine yw_aload_n hC dX8_init_64 rfl 0 rfl ?_
  refine yw_bipush hC (v := 80) dX8_init_65 (by decide) ?_
  refine yw_newa hC (atype := .int) (ty := .int) (t0 := 0) (c0 := ycA E 10) (N := 80) kw_1_125 rfl rfl yo_int (fun _ => rfl) (by decide) (by decide) (by decide) (Nat.le_of_ble_eq_true rfl) (Nat.le_of_ble_eq_true rfl) dX8_init_67 (fun q8 => ?_)
  refine yw_putF hC (hIn rfl) (ws' := (((((((([(h0, .inr (7, [.int 0, .int 0, .ref q1, .ref q2, .ref q3, .ref q4, .ref q5, .ref q6, .int 0, .int 0, .int 99, .int 0, .ref q7, .ref q8, .null, .int 0, .null]))] ++ [(q1, .inl (ycA E 10, 10, .inl (fun _ => 0)))]) ++ [(q2, .inl (ycA E 10, 10, .inl (fun _ => 0)))]) ++ [(q3, .inl (ycA E 10, 10, .inl (fun _ => 0)))]) ++ [(q4, .inl (ycA E 10, 10, .inl (fun _ => 0)))]) ++ [(q5, .inl (ycA E 10, 4, .inl (fun _ => 0)))]) ++ [(q6, .inl (ycA E 10, 4, .inl (fun _ => 0)))]) ++ [(q7, .inl (ycA E 10, 80, .inl (fun _ => 0)))]) ++ [(q8, .inl (ycA E 10, 80, .inl (fun _ => 0)))])) (ty := .array .int) zF_Told_starts.1 0 (yget (yget (yget (yget (yget (yget (yget (yget yg1)))))))) (by decide +kernel) rfl rfl (Nat.le_of_ble_eq_true rfl) kw_1_83 dX8_init_69 (yset (yset (yset (yset (yset (yset (yset (yset ys1 yl1) (ylen yl1)) (ylen (ylen yl1))) (ylen (ylen (ylen yl1)))) (ylen (ylen (ylen (ylen yl1))))) (ylen (ylen (ylen (ylen (ylen yl1)))))) (ylen (ylen (ylen (ylen (ylen (ylen yl1))))))) (ylen (ylen (ylen (ylen (ylen (ylen (ylen yl1)))))))) ?_
  refine yw_aload_n hC dX8_init_72 rfl 0 rfl ?_
  refine yw_bipush hC (v := 80) dX8_init_73 (by decide) ?_
  refine yw_newa hC (atype := .int) (ty := .int) (t0 := 0) (c0 := ycA E 10) (N := 80) kw_1_125 rfl rfl yo_int (fun _ => rfl) (by decide) (by decide) (by decide) (Nat.le_of_ble_eq_true rfl) (Nat.le_of_ble_eq_true rfl) dX8_init_75 (fun q9 => ?_)
  refine yw_putF hC (hIn rfl) (ws' := ((((((((([(h0, .inr (7, [.int 0, .int 0, .ref q1, .ref q2, .ref q3, .ref q4, .ref q5, .ref q6, .int 0, .int 0, .int 99, .int 0, .ref q7, .ref q8, .ref q9, .int 0, .null]))] ++ [(q1, .inl (ycA E 10, 10, .inl (fun _ => 0)))]) ++ [(q2, .inl (ycA E 10, 10, .inl (fun _ => 0)))]) ++ [(q3, .inl (ycA E 10, 10, .inl (fun _ => 0)))]) ++ [(q4, .inl (ycA E 10, 10, .inl (fun _ => 0)))]) ++ [(q5, .inl (ycA E 10, 4, .inl (fun _ => 0)))]) ++ [(q6, .inl (ycA E 10, 4, .inl (fun _ => 0)))]) ++ [(q7, .inl (ycA E 10, 80, .inl (fun _ => 0)))]) ++ [(q8, .inl (ycA E 10, 80, .inl (fun _ => 0)))]) ++ [(q9, .inl (ycA E 10, 80, .inl (fun _ => 0)))])) (ty := .array .int) zF_Told_sizes.1 0 (yget (yget (yget (yget (yget (yget (yget (yget (yget yg1))))))))) (by decide +kernel) rfl rfl (Nat.le_of_ble_eq_true rfl) kw_1_85 dX8_init_77 (yset (yset (yset (yset (yset (yset (yset (yset (yset ys1 yl1) (ylen yl1)) (ylen (ylen yl1))) (ylen (ylen (ylen yl1)))) (ylen (ylen (ylen (ylen yl1))))) (ylen (ylen (ylen (ylen (ylen yl1)))))) (ylen (ylen (ylen (ylen (ylen (ylen yl1))))))) (ylen (ylen (ylen (ylen (ylen (ylen (ylen yl1)))))))) (ylen (ylen (ylen (ylen (ylen (ylen (ylen (ylen yl1))))))))) ?_
  refine yw_aload_n hC dX8_init_80 rfl 0 rfl ?_
  refine yw_sipush hC (v := 200) dX8_init_81 (by decide) ?_
  refine yw_newa hC (atype := .int) (ty := .int) (t0 := 0) (c0 := ycA E 10) (N := 200) kw_1_125 rfl rfl yo_int (fun _ => rfl) (by decide) (by decide) (by decide) (Nat.le_of_ble_eq_true rfl) (Nat.le_of_ble_eq_true rfl) dX8_init_84 (fun q10 => ?_)
  refine yw_putF hC (hIn rfl) (ws' := (((((((((([(h0, .inr (7, [.int 0, .int 0, .ref q1, .ref q2, .ref q3, .ref q4, .ref q5, .ref q6, .int 0, .int 0, .int 99, .int 0, .ref q7, .ref q8, .ref q9, .int 0, .ref q10]))] ++ [(q1, .inl (ycA E 10, 10, .inl (fun _ => 0)))]) ++ [(q2, .inl (ycA E 10, 10, .inl (fun _ => 0)))]) ++ [(q3, .inl (ycA E 10, 10, .inl (fun _ => 0)))]) ++ [(q4, .inl (ycA E 10, 10, .inl (fun _ => 0)))]) ++ [(q5, .inl (ycA E 10, 4, .inl (fun _ => 0)))]) ++ [(q6, .inl (ycA E 10, 4, .inl (fun _ => 0)))]) ++ [(q7, .inl (ycA E 10, 80, .inl (fun _ => 0)))]) ++ [(q8, .inl (ycA E 10, 80, .inl (fun _ => 0)))]) ++ [(q9, .inl (ycA E 10, 80, .inl (fun _ => 0)))]) ++ [(q10, .inl (ycA E 10, 200, .inl (fun _ => 0)))])) (ty := .array .int) zF_Told_numbers.1 0 (yget (yget (yget (yget (yget (yget (yget (yget (yget (yget yg1)))))))))) (by decide +kernel) rfl rfl (Nat.le_of_ble_eq_true rfl) kw_1_88 dX8_init_86 (yset (yset (yset (yset (yset (yset (yset (yset (yset (yset ys1 yl1) (ylen yl1)) (ylen (ylen yl1))) (ylen (ylen (ylen yl1)))) (ylen (ylen (ylen (ylen yl1))))) (ylen (ylen (ylen (ylen (ylen yl1)))))) (ylen (ylen (ylen (ylen (ylen (ylen yl1))))))) (ylen (ylen (ylen (ylen (ylen (ylen (ylen yl1)))))))) (ylen (ylen (ylen (ylen (ylen (ylen (ylen (ylen yl1))))))))) (ylen (ylen (ylen (ylen (ylen (ylen (ylen (ylen (ylen yl1)))))))))) ?_
  exact yw_ret hC hR (fun i => [(h0), (q1), (q2), (q3), (q4), (q5), (q6), (q7), (q8), (q9), (q10)].getD i 0) rfl dX8_init_89
theorem dX7_init_0 : decode cX7_init 0 = .ok (.aload_n 0, 1) := by decide +kernel
theorem dX7_init_1 : decode cX7_init 1 = .ok (.invokespecial 3, 3) := by decide +kernel
theorem dX7_init_4 : decode cX7_init 4 = .ok (.aload_n 0, 1) := by decide +kernel
theorem dX7_init_5 : decode cX7_init 5 = .ok (.bipush (-2), 2) := by decide +kernel
theorem dX7_init_7 : decode cX7_init 7 = .ok (.putfield 9, 3) := by decide +kernel
theorem dX7_init_10 : decode cX7_init 10 = .ok (.aload_n 0, 1) := by decide +kernel
theorem dX7_init_11 : decode cX7_init 11 = .ok (.bipush 99, 2) := by decide +kernel
theorem dX7_init_13 : decode cX7_init 13 = .ok (.putfield 15, 3) := by decide +kernel
theorem dX7_init_16 : decode cX7_init 16 = .ok (.aload_n 0, 1) := by decide +kernel
theorem dX7_init_17 : decode cX7_init 17 = .ok (.bipush 10, 2) := by decide +kernel
theorem dX7_init_19 : decode cX7_init 19 = .ok (.newarray .int, 2) := by decide +kernel
theorem dX7_init_21 : decode cX7_init 21 = .ok (.putfield 18, 3) := by decide +kernel
theorem dX7_init_24 : decode cX7_init 24 = .ok (.return_, 1) := by decide +kernel
set_option maxHeartbeats 8000000 in
set_option maxRecDepth 100000 in
theorem yc_Standing {l : Launch} {D : va_G} {cA : Nat → ClassId} {h0 : Nat} : YCt l D cA yX7_init cX7_init 1 1 1 10 h0 [(h0, .inr (6, [.int 0, .int 0, .int 0, .int 0, .int 0, .int 0, .int 0, .int 0, .int 0, .int 0, .int 0, .null]))] (yp_Standing cA h0) := by
  refine yct (by decide +kernel) (by decide) (fun E hl hD hcA hN hIn hC hR => ?_)
  subst hl; subst hD; subst hcA
  refine yw_aload_n hC dX7_init_0 rfl 0 rfl ?_
  refine yw_obj hC (by decide) dX7_init_1 kw_1_131 kw_1_26 kw_1_27 ?_
  refine yw_aload_n hC dX7_init_4 rfl 0 rfl ?_
  refine yw_bipush hC (v := -2) dX7_init_5 (by decide) ?_
  refine yw_put hC (ws' := [(h0, .inr (6, [.int 0, .int 0, .int (-2), .int 0, .int 0, .int 0, .int 0, .int 0, .int 0, .int 0, .int 0, .null]))]) (ty := .int) zF_Standing_sentDay.1 0 yg1 (by decide +kernel) rfl rfl (Nat.le_of_ble_eq_true rfl) kw_1_137 dX7_init_7 ys1 ?_
  refine yw_aload_n hC dX7_init_10 rfl 0 rfl ?_
  refine yw_bipush hC (v := 99) dX7_init_11 (by decide) ?_
  refine yw_put hC (ws' := [(h0, .inr (6, [.int 0, .int 0, .int (-2), .int 0, .int 0, .int 0, .int 0, .int 0, .int 0, .int 0, .int 99, .null]))]) (ty := .int) zF_Standing_periodTo.1 0 yg1 (by decide +kernel) rfl rfl (Nat.le_of_ble_eq_true rfl) kw_1_165 dX7_init_13 ys1 ?_
  refine yw_aload_n hC dX7_init_16 rfl 0 rfl ?_
  refine yw_bipush hC (v := 10) dX7_init_17 (by decide) ?_
  refine yw_newa hC (atype := .int) (ty := .int) (t0 := 0) (c0 := ycA E 10) (N := 10) kw_1_125 rfl rfl yo_int (fun _ => rfl) (by decide) (by decide) (by decide) (Nat.le_of_ble_eq_true rfl) (Nat.le_of_ble_eq_true rfl) dX7_init_19 (fun q1 => ?_)
  refine yw_putF hC (hIn rfl) (ws' := ([(h0, .inr (6, [.int 0, .int 0, .int (-2), .int 0, .int 0, .int 0, .int 0, .int 0, .int 0, .int 0, .int 99, .ref q1]))] ++ [(q1, .inl (ycA E 10, 10, .inl (fun _ => 0)))])) (ty := .array .int) zF_Standing_foes.1 0 (yget yg1) (by decide +kernel) rfl rfl (Nat.le_of_ble_eq_true rfl) kw_1_168 dX7_init_21 (yset ys1 yl1) ?_
  exact yw_ret hC hR (fun i => [(h0), (q1)].getD i 0) rfl dX7_init_24
theorem dX0_init_0 : decode cX0_init 0 = .ok (.aload_n 0, 1) := by decide +kernel
theorem dX0_init_1 : decode cX0_init 1 = .ok (.invokespecial 3, 3) := by decide +kernel
theorem dX0_init_4 : decode cX0_init 4 = .ok (.aload_n 0, 1) := by decide +kernel
theorem dX0_init_5 : decode cX0_init 5 = .ok (.bipush 12, 2) := by decide +kernel
theorem dX0_init_7 : decode cX0_init 7 = .ok (.anewarray 9, 3) := by decide +kernel
theorem dX0_init_10 : decode cX0_init 10 = .ok (.putfield 11, 3) := by decide +kernel
theorem dX0_init_13 : decode cX0_init 13 = .ok (.iconst 0, 1) := by decide +kernel
theorem dX0_init_14 : decode cX0_init 14 = .ok (.istore_n 1, 1) := by decide +kernel
theorem dX0_init_15 : decode cX0_init 15 = .ok (.iload_n 1, 1) := by decide +kernel
theorem dX0_init_16 : decode cX0_init 16 = .ok (.bipush 12, 2) := by decide +kernel
theorem dX0_init_18 : decode cX0_init 18 = .ok (.if_icmp .ge 22, 3) := by decide +kernel
theorem dX0_init_21 : decode cX0_init 21 = .ok (.aload_n 0, 1) := by decide +kernel
theorem dX0_init_22 : decode cX0_init 22 = .ok (.getfield 11, 3) := by decide +kernel
theorem dX0_init_25 : decode cX0_init 25 = .ok (.iload_n 1, 1) := by decide +kernel
theorem dX0_init_26 : decode cX0_init 26 = .ok (.new 9, 3) := by decide +kernel
theorem dX0_init_29 : decode cX0_init 29 = .ok (.dup, 1) := by decide +kernel
theorem dX0_init_30 : decode cX0_init 30 = .ok (.invokespecial 17, 3) := by decide +kernel
theorem dX0_init_33 : decode cX0_init 33 = .ok (.aastore, 1) := by decide +kernel
theorem dX0_init_34 : decode cX0_init 34 = .ok (.iinc 1 1, 3) := by decide +kernel
theorem dX0_init_37 : decode cX0_init 37 = .ok (.goto (-22), 3) := by decide +kernel
theorem dX0_init_40 : decode cX0_init 40 = .ok (.return_, 1) := by decide +kernel
set_option maxHeartbeats 8000000 in
set_option maxRecDepth 100000 in
theorem yc_Journal {l : Launch} {D : va_G} {cA : Nat → ClassId} {h0 : Nat} : YCt l D cA yX0_init cX0_init 2 2 25 276 h0 [(h0, .inr (0, [.null, .int 0, .int 0]))] (yp_Journal cA h0) := by
  refine yct (by decide +kernel) (by decide) (fun E hl hD hcA hN hIn hC hR => ?_)
  subst hl; subst hD; subst hcA
  refine yw_aload_n hC dX0_init_0 rfl 0 rfl ?_
  refine yw_obj hC (by decide) dX0_init_1 kw_1_202 kw_1_26 kw_1_27 ?_
  refine yw_aload_n hC dX0_init_4 rfl 0 rfl ?_
  refine yw_bipush hC (v := 12) dX0_init_5 (by decide) ?_
  refine yw_newq hC (N := 12) kw_1_203 (by decide) (by decide) (by decide) (Nat.le_of_ble_eq_true rfl) (Nat.le_of_ble_eq_true rfl) dX0_init_7 (fun q1 => ?_)
  refine yw_putF hC (hIn rfl) (ws' := ([(h0, .inr (0, [.ref q1, .int 0, .int 0]))] ++ [(q1, .inl (ycA E 13, 12, .inr (.inr (.inr (.inr (fun _ => none))))))])) (ty := .array (.object "ClassOfMany$Standing")) zF_Journal_kept.1 0 (yget yg1) (by decide +kernel) rfl rfl (Nat.le_of_ble_eq_true rfl) kw_1_206 dX0_init_10 (yset ys1 yl1) ?_
  refine yw_iconst hC (v := 0) dX0_init_13 (by decide) ?_
  refine yw_istore_n hC (lv' := [(1, .int 0), (0, .ref h0)]) dX0_init_14 rfl hN (by decide) rfl ?_
  refine yw_iload_n hC dX0_init_15 rfl 0 rfl ?_
  refine yw_bipush hC (v := 12) dX0_init_16 (by decide) ?_
  refine yw_icmp_ge hC 40 dX0_init_18 (by decide) (fun h => absurd h (by decide)) (fun _ => ?_)
  refine yw_aload_n hC dX0_init_21 rfl 1 rfl ?_
  refine yw_get hC (v := .ref q1) zF_Journal_kept.1 0 rfl rfl kw_1_206 dX0_init_22 ?_
  refine yw_iload_n hC dX0_init_25 rfl 0 rfl ?_
  refine yw_new hC (ci := 6) (N := 12) (T := TX7) (C := "ClassOfMany$Standing") (fs := [.int 0, .int 0, .int 0, .int 0, .int 0, .int 0, .int 0, .int 0, .int 0, .int 0, .int 0, .null]) rfl tyX7 tyX7_ok (fun j hj => by match j, hj with | 0, _ => rfl | 1, _ => rfl | 2, _ => rfl | 3, _ => rfl | 4, _ => rfl | 5, _ => rfl | 6, _ => rfl | 7, _ => rfl | 8, _ => rfl | 9, _ => rfl | 10, _ => rfl | 11, _ => rfl | k + 12, h => exact absurd h (by omega)) kw_1_203 kw_1_127 kw_1_3 (Nat.le_of_ble_eq_true rfl) (Nat.le_of_ble_eq_true rfl) dX0_init_26 (fun q2 => ?_)
  refine yw_dup hC dX0_init_29 rfl ?_
  refine yw_callN hC (yc_Standing (h0 := q2)) kw_1_130 kw_1_3 (by decide +kernel) kw_1_129 rfl (by decide +kernel) (by decide) (by decide) (Nat.le_of_ble_eq_true rfl) dX0_init_30 (Nat.le_of_ble_eq_true rfl) (Nat.le_of_ble_eq_true rfl) (fun u3 => ?_)
  refine yw_aast hC (ws' := (([(h0, .inr (0, [.ref q1, .int 0, .int 0]))] ++ [(q1, .inl (ycA E 13, 12, .inr (.inr (.inr (.inr (va_up (fun _ => none) 0 (some q2)))))))]) ++ yp_Standing (ycA E) q2 u3)) (N := 12) (T := TX7) (ci := 6) 1 2 rfl rfl rfl (vp_in_nI (n := 0) (by decide) (by decide)) dX0_init_33 rfl ?_
  refine yw_iinc hC (lv' := [(1, .int 1), (0, .ref h0)]) dX0_init_34 0 rfl (by decide) hN (by decide) rfl ?_
  refine yw_goto hC 15 dX0_init_37 (by decide) ?_
  refine yw_iload_n hC dX0_init_15 rfl 0 rfl ?_
  refine yw_bipush hC (v := 12) dX0_init_16 (by decide) ?_
  refine yw_icmp_ge hC 40 dX0_init_18 (by decide) (fun h => absurd h (by decide)) (fun _ => ?_)
  refine yw_aload_n hC dX0_init_21 rfl 1 rfl ?_
  refine yw_get hC (v := .ref q1) zF_Journal_kept.1 0 rfl rfl kw_1_206 dX0_init_22 ?_
  refine yw_iload_n hC dX0_init_25 rfl 0 rfl ?_
  refine yw_new hC (ci := 6) (N := 12) (T := TX7) (C := "ClassOfMany$Standing") (fs := [.int 0, .int 0, .int 0, .int 0, .int 0, .int 0, .int 0, .int 0, .int 0, .int 0, .int 0, .null]) rfl tyX7 tyX7_ok (fun j hj => by match j, hj with | 0, _ => rfl | 1, _ => rfl | 2, _ => rfl | 3, _ => rfl | 4, _ => rfl | 5, _ => rfl | 6, _ => rfl | 7, _ => rfl | 8, _ => rfl | 9, _ => rfl | 10, _ => rfl | 11, _ => rfl | k + 12, h => exact absurd h (by omega)) kw_1_203 kw_1_127 kw_1_3 (Nat.le_of_ble_eq_true rfl) (Nat.le_of_ble_eq_true rfl) dX0_init_26 (fun q4 => ?_)
  refine yw_dup hC dX0_init_29 rfl ?_
  refine yw_callN hC (yc_Standing (h0 := q4)) kw_1_130 kw_1_3 (by decide +kernel) kw_1_129 rfl (by decide +kernel) (by decide) (by decide) (Nat.le_of_ble_eq_true rfl) dX0_init_30 (Nat.le_of_ble_eq_true rfl) (Nat.le_of_ble_eq_true rfl) (fun u5 => ?_)
  refine yw_aast hC (ws' := ((([(h0, .inr (0, [.ref q1, .int 0, .int 0]))] ++ [(q1, .inl (ycA E 13, 12, .inr (.inr (.inr (.inr (va_up (va_up (fun _ => none) 0 (some q2)) 1 (some q4)))))))]) ++ yp_Standing (ycA E) q2 u3) ++ yp_Standing (ycA E) q4 u5)) (N := 12) (T := TX7) (ci := 6) 1 4 rfl rfl rfl (vp_in_nI (n := 1) (by decide) (by decide)) dX0_init_33 rfl ?_
  refine yw_iinc hC (lv' := [(1, .int 2), (0, .ref h0)]) dX0_init_34 0 rfl (by decide) hN (by decide) rfl ?_
  refine yw_goto hC 15 dX0_init_37 (by decide) ?_
  refine yw_iload_n hC dX0_init_15 rfl 0 rfl ?_
  refine yw_bipush hC (v := 12) dX0_init_16 (by decide) ?_
  refine yw_icmp_ge hC 40 dX0_init_18 (by decide) (fun h => absurd h (by decide)) (fun _ => ?_)
  refine yw_aload_n hC dX0_init_21 rfl 1 rfl ?_
  refine yw_get hC (v := .ref q1) zF_Journal_kept.1 0 rfl rfl kw_1_206 dX0_init_22 ?_
  refine yw_iload_n hC dX0_init_25 rfl 0 rfl ?_
  refine yw_new hC (ci := 6) (N := 12) (T := TX7) (C := "ClassOfMany$Standing") (fs := [.int 0, .int 0, .int 0, .int 0, .int 0, .int 0, .int 0, .int 0, .int 0, .int 0, .int 0, .null]) rfl tyX7 tyX7_ok (fun j hj => by match j, hj with | 0, _ => rfl | 1, _ => rfl | 2, _ => rfl | 3, _ => rfl | 4, _ => rfl | 5, _ => rfl | 6, _ => rfl | 7, _ => rfl | 8, _ => rfl | 9, _ => rfl | 10, _ => rfl | 11, _ => rfl | k + 12, h => exact absurd h (by omega)) kw_1_203 kw_1_127 kw_1_3 (Nat.le_of_ble_eq_true rfl) (Nat.le_of_ble_eq_true rfl) dX0_init_26 (fun q6 => ?_)
  refine yw_dup hC dX0_init_29 rfl ?_
  refine yw_callN hC (yc_Standing (h0 := q6)) kw_1_130 kw_1_3 (by decide +kernel) kw_1_129 rfl (by decide +kernel) (by decide) (by decide) (Nat.le_of_ble_eq_true rfl) dX0_init_30 (Nat.le_of_ble_eq_true rfl) (Nat.le_of_ble_eq_true rfl) (fun u7 => ?_)
  refine yw_aast hC (ws' := (((([(h0, .inr (0, [.ref q1, .int 0, .int 0]))] ++ [(q1, .inl (ycA E 13, 12, .inr (.inr (.inr (.inr (va_up (va_up (va_up (fun _ => none) 0 (some q2)) 1 (some q4)) 2 (some q6)))))))]) ++ yp_Standing (ycA E) q2 u3) ++ yp_Standing (ycA E) q4 u5) ++ yp_Standing (ycA E) q6 u7)) (N := 12) (T := TX7) (ci := 6) 1 6 rfl rfl rfl (vp_in_nI (n := 2) (by decide) (by decide)) dX0_init_33 rfl ?_
  refine yw_iinc hC (lv' := [(1, .int 3), (0, .ref h0)]) dX0_init_34 0 rfl (by decide) hN (by decide) rfl ?_
  refine yw_goto hC 15 dX0_init_37 (by decide) ?_
  refine yw_iload_n hC dX0_init_15 rfl 0 rfl ?_
  refine yw_bipush hC (v := 12) dX0_init_16 (by decide) ?_
  refine yw_icmp_ge hC 40 dX0_init_18 (by decide) (fun h => absurd h (by decide)) (fun _ => ?_)
  refine yw_aload_n hC dX0_init_21 rfl 1 rfl ?_
  refine yw_get hC (v := .ref q1) zF_Journal_kept.1 0 rfl rfl kw_1_206 dX0_init_22 ?_
  refine yw_iload_n hC dX0_init_25 rfl 0 rfl ?_
  refine yw_new hC (ci := 6) (N := 12) (T := TX7) (C := "ClassOfMany$Standing") (fs := [.int 0, .int 0, .int 0, .int 0, .int 0, .int 0, .int 0, .int 0, .int 0, .int 0, .int 0, .null]) rfl tyX7 tyX7_ok (fun j hj => by match j, hj with | 0, _ => rfl | 1, _ => rfl | 2, _ => rfl | 3, _ => rfl | 4, _ => rfl | 5, _ => rfl | 6, _ => rfl | 7, _ => rfl | 8, _ => rfl | 9, _ => rfl | 10, _ => rfl | 11, _ => rfl | k + 12, h => exact absurd h (by omega)) kw_1_203 kw_1_127 kw_1_3 (Nat.le_of_ble_eq_true rfl) (Nat.le_of_ble_eq_true rfl) dX0_init_26 (fun q8 => ?_)
  refine yw_dup hC dX0_init_29 rfl ?_
  refine yw_callN hC (yc_Standing (h0 := q8)) kw_1_130 kw_1_3 (by decide +kernel) kw_1_129 rfl (by decide +kernel) (by decide) (by decide) (Nat.le_of_ble_eq_true rfl) dX0_init_30 (Nat.le_of_ble_eq_true rfl) (Nat.le_of_ble_eq_true rfl) (fun u9 => ?_)
  refine yw_aast hC (ws' := ((((([(h0, .inr (0, [.ref q1, .int 0, .int 0]))] ++ [(q1, .inl (ycA E 13, 12, .inr (.inr (.inr (.inr (va_up (va_up (va_up (va_up (fun _ => none) 0 (some q2)) 1 (some q4)) 2 (some q6)) 3 (some q8)))))))]) ++ yp_Standing (ycA E) q2 u3) ++ yp_Standing (ycA E) q4 u5) ++ yp_Standing (ycA E) q6 u7) ++ yp_Standing (ycA E) q8 u9)) (N := 12) (T := TX7) (ci := 6) 1 8 rfl rfl rfl (vp_in_nI (n := 3) (by decide) (by decide)) dX0_init_33 rfl ?_
  refine yw_iinc hC (lv' := [(1, .int 4), (0, .ref h0)]) dX0_init_34 0 rfl (by decide) hN (by decide) rfl ?_
  refine yw_goto hC 15 dX0_init_37 (by decide) ?_
  refine yw_iload_n hC dX0_init_15 rfl 0 rfl ?_
  refine yw_bipush hC (v := 12) dX0_init_16 (by decide) ?_
  refine yw_icmp_ge hC 40 dX0_init_18 (by decide) (fun h => absurd h (by decide)) (fun _ => ?_)
  refine yw_aload_n hC dX0_init_21 rfl 1 rfl ?_
  refine yw_get hC (v := .ref q1) zF_Journal_kept.1 0 rfl rfl kw_1_206 dX0_init_22 ?_
  refine yw_iload_n hC dX0_init_25 rfl 0 rfl ?_
  refine yw_new hC (ci := 6) (N := 12) (T := TX7) (C := "ClassOfMany$Standing") (fs := [.int 0, .int 0, .int 0, .int 0, .int 0, .int 0, .int 0, .int 0, .int 0, .int 0, .int 0, .null]) rfl tyX7 tyX7_ok (fun j hj => by match j, hj with | 0, _ => rfl | 1, _ => rfl | 2, _ => rfl | 3, _ => rfl | 4, _ => rfl | 5, _ => rfl | 6, _ => rfl | 7, _ => rfl | 8, _ => rfl | 9, _ => rfl | 10, _ => rfl | 11, _ => rfl | k + 12, h => exact absurd h (by omega)) kw_1_203 kw_1_127 kw_1_3 (Nat.le_of_ble_eq_true rfl) (Nat.le_of_ble_eq_true rfl) dX0_init_26 (fun q10 => ?_)
  refine yw_dup hC dX0_init_29 rfl ?_
  refine yw_callN hC (yc_Standing (h0 := q10)) kw_1_130 kw_1_3 (by decide +kernel) kw_1_129 rfl (by decide +kernel) (by decide) (by decide) (Nat.le_of_ble_eq_true rfl) dX0_init_30 (Nat.le_of_ble_eq_true rfl) (Nat.le_of_ble_eq_true rfl) (fun u11 => ?_)
  refine yw_aast hC (ws' := (((((([(h0, .inr (0, [.ref q1, .int 0, .int 0]))] ++ [(q1, .inl (ycA E 13, 12, .inr (.inr (.inr (.inr (va_up (va_up (va_up (va_up (va_up (fun _ => none) 0 (some q2)) 1 (some q4)) 2 (some q6)) 3 (some q8)) 4 (some q10)))))))]) ++ yp_Standing (ycA E) q2 u3) ++ yp_Standing (ycA E) q4 u5) ++ yp_Standing (ycA E) q6 u7) ++ yp_Standing (ycA E) q8 u9) ++ yp_Standing (ycA E) q10 u11)) (N := 12) (T := TX7) (ci := 6) 1 10 rfl rfl rfl (vp_in_nI (n := 4) (by decide) (by decide)) dX0_init_33 rfl ?_
  refine yw_iinc hC (lv' := [(1, .int 5), (0, .ref h0)]) dX0_init_34 0 rfl (by decide) hN (by decide) rfl ?_
  refine yw_goto hC 15 dX0_init_37 (by decide) ?_
  refine yw_iload_n hC dX0_init_15 rfl 0 rfl ?_
  refine yw_bipush hC (v := 12) dX0_init_16 (by decide) ?_
  refine yw_icmp_ge hC 40 dX0_init_18 (by decide) (fun h => absurd h (by decide)) (fun _ => ?_)
  refine yw_aload_n hC dX0_init_21 rfl 1 rfl ?_
  refine yw_get hC (v := .ref q1) zF_Journal_kept.1 0 rfl rfl kw_1_206 dX0_init_22 ?_
  refine yw_iload_n hC dX0_init_25 rfl 0 rfl ?_
  refine yw_new hC (ci := 6) (N := 12) (T := TX7) (C := "ClassOfMany$Standing") (fs := [.int 0, .int 0, .int 0, .int 0, .int 0, .int 0, .int 0, .int 0, .int 0, .int 0, .int 0, .null]) rfl tyX7 tyX7_ok (fun j hj => by match j, hj with | 0, _ => rfl | 1, _ => rfl | 2, _ => rfl | 3, _ => rfl | 4, _ => rfl | 5, _ => rfl | 6, _ => rfl | 7, _ => rfl | 8, _ => rfl | 9, _ => rfl | 10, _ => rfl | 11, _ => rfl | k + 12, h => exact absurd h (by omega)) kw_1_203 kw_1_127 kw_1_3 (Nat.le_of_ble_eq_true rfl) (Nat.le_of_ble_eq_true rfl) dX0_init_26 (fun q12 => ?_)
  refine yw_dup hC dX0_init_29 rfl ?_
  refine yw_callN hC (yc_Standing (h0 := q12)) kw_1_130 kw_1_3 (by decide +kernel) kw_1_129 rfl (by decide +kernel) (by decide) (by decide) (Nat.le_of_ble_eq_true rfl) dX0_init_30 (Nat.le_of_ble_eq_true rfl) (Nat.le_of_ble_eq_true rfl) (fun u13 => ?_)
  refine yw_aast hC (ws' := ((((((([(h0, .inr (0, [.ref q1, .int 0, .int 0]))] ++ [(q1, .inl (ycA E 13, 12, .inr (.inr (.inr (.inr (va_up (va_up (va_up (va_up (va_up (va_up (fun _ => none) 0 (some q2)) 1 (some q4)) 2 (some q6)) 3 (some q8)) 4 (some q10)) 5 (some q12)))))))]) ++ yp_Standing (ycA E) q2 u3) ++ yp_Standing (ycA E) q4 u5) ++ yp_Standing (ycA E) q6 u7) ++ yp_Standing (ycA E) q8 u9) ++ yp_Standing (ycA E) q10 u11) ++ yp_Standing (ycA E) q12 u13)) (N := 12) (T := TX7) (ci := 6) 1 12 rfl rfl rfl (vp_in_nI (n := 5) (by decide) (by decide)) dX0_init_33 rfl ?_
  refine yw_iinc hC (lv' := [(1, .int 6), (0, .ref h0)]) dX0_init_34 0 rfl (by decide) hN (by decide) rfl ?_
  refine yw_goto hC 15 dX0_init_37 (by decide) ?_
  refine yw_iload_n hC dX0_init_15 rfl 0 rfl ?_
  refine yw_bipush hC (v := 12) dX0_init_16 (by decide) ?_
  refine yw_icmp_ge hC 40 dX0_init_18 (by decide) (fun h => absurd h (by decide)) (fun _ => ?_)
  refine yw_aload_n hC dX0_init_21 rfl 1 rfl ?_
  refine yw_get hC (v := .ref q1) zF_Journal_kept.1 0 rfl rfl kw_1_206 dX0_init_22 ?_
  refine yw_iload_n hC dX0_init_25 rfl 0 rfl ?_
  refine yw_new hC (ci := 6) (N := 12) (T := TX7) (C := "ClassOfMany$Standing") (fs := [.int 0, .int 0, .int 0, .int 0, .int 0, .int 0, .int 0, .int 0, .int 0, .int 0, .int 0, .null]) rfl tyX7 tyX7_ok (fun j hj => by match j, hj with | 0, _ => rfl | 1, _ => rfl | 2, _ => rfl | 3, _ => rfl | 4, _ => rfl | 5, _ => rfl | 6, _ => rfl | 7, _ => rfl | 8, _ => rfl | 9, _ => rfl | 10, _ => rfl | 11, _ => rfl | k + 12, h => exact absurd h (by omega)) kw_1_203 kw_1_127 kw_1_3 (Nat.le_of_ble_eq_true rfl) (Nat.le_of_ble_eq_true rfl) dX0_init_26 (fun q14 => ?_)
  refine yw_dup hC dX0_init_29 rfl ?_
  refine yw_callN hC (yc_Standing (h0 := q14)) kw_1_130 kw_1_3 (by decide +kernel) kw_1_129 rfl (by decide +kernel) (by decide) (by decide) (Nat.le_of_ble_eq_true rfl) dX0_init_30 (Nat.le_of_ble_eq_true rfl) (Nat.le_of_ble_eq_true rfl) (fun u15 => ?_)
  refine yw_aast hC (ws' := (((((((([(h0, .inr (0, [.ref q1, .int 0, .int 0]))] ++ [(q1, .inl (ycA E 13, 12, .inr (.inr (.inr (.inr (va_up (va_up (va_up (va_up (va_up (va_up (va_up (fun _ => none) 0 (some q2)) 1 (some q4)) 2 (some q6)) 3 (some q8)) 4 (some q10)) 5 (some q12)) 6 (some q14)))))))]) ++ yp_Standing (ycA E) q2 u3) ++ yp_Standing (ycA E) q4 u5) ++ yp_Standing (ycA E) q6 u7) ++ yp_Standing (ycA E) q8 u9) ++ yp_Standing (ycA E) q10 u11) ++ yp_Standing (ycA E) q12 u13) ++ yp_Standing (ycA E) q14 u15)) (N := 12) (T := TX7) (ci := 6) 1 14 rfl rfl rfl (vp_in_nI (n := 6) (by decide) (by decide)) dX0_init_33 rfl ?_
  refine yw_iinc hC (lv' := [(1, .int 7), (0, .ref h0)]) dX0_init_34 0 rfl (by decide) hN (by decide) rfl ?_
  refine yw_goto hC 15 dX0_init_37 (by decide) ?_
  refine yw_iload_n hC dX0_init_15 rfl 0 rfl ?_
  refine yw_bipush hC (v := 12) dX0_init_16 (by decide) ?_
  refine yw_icmp_ge hC 40 dX0_init_18 (by decide) (fun h => absurd h (by decide)) (fun _ => ?_)
  refine yw_aload_n hC dX0_init_21 rfl 1 rfl ?_
  refine yw_get hC (v := .ref q1) zF_Journal_kept.1 0 rfl rfl kw_1_206 dX0_init_22 ?_
  refine yw_iload_n hC dX0_init_25 rfl 0 rfl ?_
  refine yw_new hC (ci := 6) (N := 12) (T := TX7) (C := "ClassOfMany$Standing") (fs := [.int 0, .int 0, .int 0, .int 0, .int 0, .int 0, .int 0, .int 0, .int 0, .int 0, .int 0, .null]) rfl tyX7 tyX7_ok (fun j hj => by match j, hj with | 0, _ => rfl | 1, _ => rfl | 2, _ => rfl | 3, _ => rfl | 4, _ => rfl | 5, _ => rfl | 6, _ => rfl | 7, _ => rfl | 8, _ => rfl | 9, _ => rfl | 10, _ => rfl | 11, _ => rfl | k + 12, h => exact absurd h (by omega)) kw_1_203 kw_1_127 kw_1_3 (Nat.le_of_ble_eq_true rfl) (Nat.le_of_ble_eq_true rfl) dX0_init_26 (fun q16 => ?_)
  refine yw_dup hC dX0_init_29 rfl ?_
  refine yw_callN hC (yc_Standing (h0 := q16)) kw_1_130 kw_1_3 (by decide +kernel) kw_1_129 rfl (by decide +kernel) (by decide) (by decide) (Nat.le_of_ble_eq_true rfl) dX0_init_30 (Nat.le_of_ble_eq_true rfl) (Nat.le_of_ble_eq_true rfl) (fun u17 => ?_)
  refine yw_aast hC (ws' := ((((((((([(h0, .inr (0, [.ref q1, .int 0, .int 0]))] ++ [(q1, .inl (ycA E 13, 12, .inr (.inr (.inr (.inr (va_up (va_up (va_up (va_up (va_up (va_up (va_up (va_up (fun _ => none) 0 (some q2)) 1 (some q4)) 2 (some q6)) 3 (some q8)) 4 (some q10)) 5 (some q12)) 6 (some q14)) 7 (some q16)))))))]) ++ yp_Standing (ycA E) q2 u3) ++ yp_Standing (ycA E) q4 u5) ++ yp_Standing (ycA E) q6 u7) ++ yp_Standing (ycA E) q8 u9) ++ yp_Standing (ycA E) q10 u11) ++ yp_Standing (ycA E) q12 u13) ++ yp_Standing (ycA E) q14 u15) ++ yp_Standing (ycA E) q16 u17)) (N := 12) (T := TX7) (ci := 6) 1 16 rfl rfl rfl (vp_in_nI (n := 7) (by decide) (by decide)) dX0_init_33 rfl ?_
  refine yw_iinc hC (lv' := [(1, .int 8), (0, .ref h0)]) dX0_init_34 0 rfl (by decide) hN (by decide) rfl ?_
  refine yw_goto hC 15 dX0_init_37 (by decide) ?_
  refine yw_iload_n hC dX0_init_15 rfl 0 rfl ?_
  refine yw_bipush hC (v := 12) dX0_init_16 (by decide) ?_
  refine yw_icmp_ge hC 40 dX0_init_18 (by decide) (fun h => absurd h (by decide)) (fun _ => ?_)
  refine yw_aload_n hC dX0_init_21 rfl 1 rfl ?_
  refine yw_get hC (v := .ref q1) zF_Journal_kept.1 0 rfl rfl kw_1_206 dX0_init_22 ?_
  refine yw_iload_n hC dX0_init_25 rfl 0 rfl ?_
  refine yw_new hC (ci := 6) (N := 12) (T := TX7) (C := "ClassOfMany$Standing") (fs := [.int 0, .int 0, .int 0, .int 0, .int 0, .int 0, .int 0, .int 0, .int 0, .int 0, .int 0, .null]) rfl tyX7 tyX7_ok (fun j hj => by match j, hj with | 0, _ => rfl | 1, _ => rfl | 2, _ => rfl | 3, _ => rfl | 4, _ => rfl | 5, _ => rfl | 6, _ => rfl | 7, _ => rfl | 8, _ => rfl | 9, _ => rfl | 10, _ => rfl | 11, _ => rfl | k + 12, h => exact absurd h (by omega)) kw_1_203 kw_1_127 kw_1_3 (Nat.le_of_ble_eq_true rfl) (Nat.le_of_ble_eq_true rfl) dX0_init_26 (fun q18 => ?_)
  refine yw_dup hC dX0_init_29 rfl ?_
  refine yw_callN hC (yc_Standing (h0 := q18)) kw_1_130 kw_1_3 (by decide +kernel) kw_1_129 rfl (by decide +kernel) (by decide) (by decide) (Nat.le_of_ble_eq_true rfl) dX0_init_30 (Nat.le_of_ble_eq_true rfl) (Nat.le_of_ble_eq_true rfl) (fun u19 => ?_)
  refine yw_aast hC (ws' := (((((((((([(h0, .inr (0, [.ref q1, .int 0, .int 0]))] ++ [(q1, .inl (ycA E 13, 12, .inr (.inr (.inr (.inr (va_up (va_up (va_up (va_up (va_up (va_up (va_up (va_up (va_up (fun _ => none) 0 (some q2)) 1 (some q4)) 2 (some q6)) 3 (some q8)) 4 (some q10)) 5 (some q12)) 6 (some q14)) 7 (some q16)) 8 (some q18)))))))]) ++ yp_Standing (ycA E) q2 u3) ++ yp_Standing (ycA E) q4 u5) ++ yp_Standing (ycA E) q6 u7) ++ yp_Standing (ycA E) q8 u9) ++ yp_Standing (ycA E) q10 u11) ++ yp_Standing (ycA E) q12 u13) ++ yp_Standing (ycA E) q14 u15) ++ yp_Standing (ycA E) q16 u17) ++ yp_Standing (ycA E) q18 u19)) (N := 12) (T := TX7) (ci := 6) 1 18 rfl rfl rfl (vp_in_nI (n := 8) (by decide) (by decide)) dX0_init_33 rfl ?_
  refine yw_iinc hC (lv' := [(1, .int 9), (0, .ref h0)]) dX0_init_34 0 rfl (by decide) hN (by decide) rfl ?_
  refine yw_goto hC 15 dX0_init_37 (by decide) ?_
  refine yw_iload_n hC dX0_init_15 rfl 0 rfl ?_
  refine yw_bipush hC (v := 12) dX0_init_16 (by decide) ?_
  refine yw_icmp_ge hC 40 dX0_init_18 (by decide) (fun h => absurd h (by decide)) (fun _ => ?_)
  refine yw_aload_n hC dX0_init_21 rfl 1 rfl ?_
  refine yw_get hC (v := .ref q1) zF_Journal_kept.1 0 rfl rfl kw_1_206 dX0_init_22 ?_
  refine yw_iload_n hC dX0_init_25 rfl 0 rfl ?_
  refine yw_new hC (ci := 6) (N := 12) (T := TX7) (C := "ClassOfMany$Standing") (fs := [.int 0, .int 0, .int 0, .int 0, .int 0, .int 0, .int 0, .int 0, .int 0, .int 0, .int 0, .null]) rfl tyX7 tyX7_ok (fun j hj => by match j, hj with | 0, _ => rfl | 1, _ => rfl | 2, _ => rfl | 3, _ => rfl | 4, _ => rfl | 5, _ => rfl | 6, _ => rfl | 7, _ => rfl | 8, _ => rfl | 9, _ => rfl | 10, _ => rfl | 11, _ => rfl | k + 12, h => exact absurd h (by omega)) kw_1_203 kw_1_127 kw_1_3 (Nat.le_of_ble_eq_true rfl) (Nat.le_of_ble_eq_true rfl) dX0_init_26 (fun q20 => ?_)
  refine yw_dup hC dX0_init_29 rfl ?_
  refine yw_callN hC (yc_Standing (h0 := q20)) kw_1_130 kw_1_3 (by decide +kernel) kw_1_129 rfl (by decide +kernel) (by decide) (by decide) (Nat.le_of_ble_eq_true rfl) dX0_init_30 (Nat.le_of_ble_eq_true rfl) (Nat.le_of_ble_eq_true rfl) (fun u21 => ?_)
  refine yw_aast hC (ws' := ((((((((((([(h0, .inr (0, [.ref q1, .int 0, .int 0]))] ++ [(q1, .inl (ycA E 13, 12, .inr (.inr (.inr (.inr (va_up (va_up (va_up (va_up (va_up (va_up (va_up (va_up (va_up (va_up (fun _ => none) 0 (some q2)) 1 (some q4)) 2 (some q6)) 3 (some q8)) 4 (some q10)) 5 (some q12)) 6 (some q14)) 7 (some q16)) 8 (some q18)) 9 (some q20)))))))]) ++ yp_Standing (ycA E) q2 u3) ++ yp_Standing (ycA E) q4 u5) ++ yp_Standing (ycA E) q6 u7) ++ yp_Standing (ycA E) q8 u9) ++ yp_Standing (ycA E) q10 u11) ++ yp_Standing (ycA E) q12 u13) ++ yp_Standing (ycA E) q14 u15) ++ yp_Standing (ycA E) q16 u17) ++ yp_Standing (ycA E) q18 u19) ++ yp_Standing (ycA E) q20 u21)) (N := 12) (T := TX7) (ci := 6) 1 20 rfl rfl rfl (vp_in_nI (n := 9) (by decide) (by decide)) dX0_init_33 rfl ?_
  refine yw_iinc hC (lv' := [(1, .int 10), (0, .ref h0)]) dX0_init_34 0 rfl (by decide) hN (by decide) rfl ?_
  refine yw_goto hC 15 dX0_init_37 (by decide) ?_
  refine yw_iload_n hC dX0_init_15 rfl 0 rfl ?_
  refine yw_bipush hC (v := 12) dX0_init_16 (by decide) ?_
  refine yw_icmp_ge hC 40 dX0_init_18 (by decide) (fun h => absurd h (by decide)) (fun _ => ?_)
  refine yw_aload_n hC dX0_init_21 rfl 1 rfl ?_
  refine yw_get hC (v := .ref q1) zF_Journal_kept.1 0 rfl rfl kw_1_206 dX0_init_22 ?_
  refine yw_iload_n hC dX0_init_25 rfl 0 rfl ?_
  refine yw_new hC (ci := 6) (N := 12) (T := TX7) (C := "ClassOfMany$Standing") (fs := [.int 0, .int 0, .int 0, .int 0, .int 0, .int 0, .int 0, .int 0, .int 0, .int 0, .int 0, .null]) rfl tyX7 tyX7_ok (fun j hj => by match j, hj with | 0, _ => rfl | 1, _ => rfl | 2, _ => rfl | 3, _ => rfl | 4, _ => rfl | 5, _ => rfl | 6, _ => rfl | 7, _ => rfl | 8, _ => rfl | 9, _ => rfl | 10, _ => rfl | 11, _ => rfl | k + 12, h => exact absurd h (by omega)) kw_1_203 kw_1_127 kw_1_3 (Nat.le_of_ble_eq_true rfl) (Nat.le_of_ble_eq_true rfl) dX0_init_26 (fun q22 => ?_)
  refine yw_dup hC dX0_init_29 rfl ?_
  refine yw_callN hC (yc_Standing (h0 := q22)) kw_1_130 kw_1_3 (by decide +kernel) kw_1_129 rfl (by decide +kernel) (by decide) (by decide) (Nat.le_of_ble_eq_true rfl) dX0_init_30 (Nat.le_of_ble_eq_true rfl) (Nat.le_of_ble_eq_true rfl) (fun u23 => ?_)
  refine yw_aast hC (ws' := (((((((((((([(h0, .inr (0, [.ref q1, .int 0, .int 0]))] ++ [(q1, .inl (ycA E 13, 12, .inr (.inr (.inr (.inr (va_up (va_up (va_up (va_up (va_up (va_up (va_up (va_up (va_up (va_up (va_up (fun _ => none) 0 (some q2)) 1 (some q4)) 2 (some q6)) 3 (some q8)) 4 (some q10)) 5 (some q12)) 6 (some q14)) 7 (some q16)) 8 (some q18)) 9 (some q20)) 10 (some q22)))))))]) ++ yp_Standing (ycA E) q2 u3) ++ yp_Standing (ycA E) q4 u5) ++ yp_Standing (ycA E) q6 u7) ++ yp_Standing (ycA E) q8 u9) ++ yp_Standing (ycA E) q10 u11) ++ yp_Standing (ycA E) q12 u13) ++ yp_Standing (ycA E) q14 u15) ++ yp_Standing (ycA E) q16 u17) ++ yp_Standing (ycA E) q18 u19) ++ yp_Standing (ycA E) q20 u21) ++ yp_Standing (ycA E) q22 u23)) (N := 12) (T := TX7) (ci := 6) 1 22 rfl rfl rfl (vp_in_nI (n := 10) (by decide) (by decide)) dX0_init_33 rfl ?_
  refine yw_iinc hC (lv' := [(1, .int 11), (0, .ref h0)]) dX0_init_34 0 rfl (by decide) hN (by decide) rfl ?_
  refine yw_goto hC 15 dX0_init_37 (by decide) ?_
  refine yw_iload_n hC dX0_init_15 rfl 0 rfl ?_
  refine yw_bipush hC (v := 12) dX0_init_16 (by decide) ?_
  refine yw_icmp_ge hC 40 dX0_init_18 (by decide) (fun h => absurd h (by decide)) (fun _ => ?_)
  refine yw_aload_n hC dX0_init_21 rfl 1 rfl ?_
  refine yw_get hC (v := .ref q1) zF_Journal_kept.1 0 rfl rfl kw_1_206 dX0_init_22 ?_
  refine yw_iload_n hC dX0_init_25 rfl 0 rfl ?_
  refine yw_new hC (ci := 6) (N := 12) (T := TX7) (C := "ClassOfMany$Standing") (fs := [.int 0, .int 0, .int 0, .int 0, .int 0, .int 0, .int 0, .int 0, .int 0, .int 0, .int 0, .null]) rfl tyX7 tyX7_ok (fun j hj => by match j, hj with | 0, _ => rfl | 1, _ => rfl | 2, _ => rfl | 3, _ => rfl | 4, _ => rfl | 5, _ => rfl | 6, _ => rfl | 7, _ => rfl | 8, _ => rfl | 9, _ => rfl | 10, _ => rfl | 11, _ => rfl | k + 12, h => exact absurd h (by omega)) kw_1_203 kw_1_127 kw_1_3 (Nat.le_of_ble_eq_true rfl) (Nat.le_of_ble_eq_true rfl) dX0_init_26 (fun q24 => ?_)
  refine yw_dup hC dX0_init_29 rfl ?_
  refine yw_callN hC (yc_Standing (h0 := q24)) kw_1_130 kw_1_3 (by decide +kernel) kw_1_129 rfl (by decide +kernel) (by decide) (by decide) (Nat.le_of_ble_eq_true rfl) dX0_init_30 (Nat.le_of_ble_eq_true rfl) (Nat.le_of_ble_eq_true rfl) (fun u25 => ?_)
  refine yw_aast hC (ws' := ((((((((((((([(h0, .inr (0, [.ref q1, .int 0, .int 0]))] ++ [(q1, .inl (ycA E 13, 12, .inr (.inr (.inr (.inr (va_up (va_up (va_up (va_up (va_up (va_up (va_up (va_up (va_up (va_up (va_up (va_up (fun _ => none) 0 (some q2)) 1 (some q4)) 2 (some q6)) 3 (some q8)) 4 (some q10)) 5 (some q12)) 6 (some q14)) 7 (some q16)) 8 (some q18)) 9 (some q20)) 10 (some q22)) 11 (some q24)))))))]) ++ yp_Standing (ycA E) q2 u3) ++ yp_Standing (ycA E) q4 u5) ++ yp_Standing (ycA E) q6 u7) ++ yp_Standing (ycA E) q8 u9) ++ yp_Standing (ycA E) q10 u11) ++ yp_Standing (ycA E) q12 u13) ++ yp_Standing (ycA E) q14 u15) ++ yp_Standing (ycA E) q16 u17) ++ yp_Standing (ycA E) q18 u19) ++ yp_Standing (ycA E) q20 u21) ++ yp_Standing (ycA E) q22 u23) ++ yp_Standing (ycA E) q24 u25)) (N := 12) (T := TX7) (ci := 6) 1 24 rfl rfl rfl (vp_in_nI (n := 11) (by decide) (by decide)) dX0_init_33 rfl ?_
  refine yw_iinc hC (lv' := [(1, .int 12), (0, .ref h0)]) dX0_init_34 0 rfl (by decide) hN (by decide) rfl ?_
  refine yw_goto hC 15 dX0_init_37 (by decide) ?_
  refine yw_iload_n hC dX0_init_15 rfl 0 rfl ?_
  refine yw_bipush hC (v := 12) dX0_init_16 (by decide) ?_
  refine yw_icmp_ge hC 40 dX0_init_18 (by decide) (fun _ => ?_) (fun h => absurd (by decide) h)
  have hk : (va_up (va_up (va_up (va_up (va_up (va_up (va_up (va_up (va_up (va_up (va_up (va_up (fun _ => none) 0 (some q2)) 1 (some q4)) 2 (some q6)) 3 (some q8)) 4 (some q10)) 5 (some q12)) 6 (some q14)) 7 (some q16)) 8 (some q18)) 9 (some q20)) 10 (some q22)) 11 (some q24)) = (fun j => if j < 12 then some ([(h0), (q1), (q2), (u3 1), (q4), (u5 1), (q6), (u7 1), (q8), (u9 1), (q10), (u11 1), (q12), (u13 1), (q14), (u15 1), (q16), (u17 1), (q18), (u19 1), (q20), (u21 1), (q22), (u23 1), (q24), (u25 1)].getD (2 + 2 * j) 0) else none) := by
    funext j
    unfold va_up
    by_cases hj : j < 12
    · match j, hj with | 0, _ => rfl | 1, _ => rfl | 2, _ => rfl | 3, _ => rfl | 4, _ => rfl | 5, _ => rfl | 6, _ => rfl | 7, _ => rfl | 8, _ => rfl | 9, _ => rfl | 10, _ => rfl | 11, _ => rfl | k + 12, h => exact absurd h (by omega)
    · rw [if_neg hj]
      repeat (rw [if_neg (by omega)])
  rw [hk]
  exact yw_ret hC hR (fun i => [(h0), (q1), (q2), (u3 1), (q4), (u5 1), (q6), (u7 1), (q8), (u9 1), (q10), (u11 1), (q12), (u13 1), (q14), (u15 1), (q16), (u17 1), (q18), (u19 1), (q20), (u21 1), (q22), (u23 1), (q24), (u25 1)].getD i 0) rfl dX0_init_40
theorem dX4_init_0 : decode cX4_init 0 = .ok (.aload_n 0, 1) := by decide +kernel
theorem dX4_init_1 : decode cX4_init 1 = .ok (.invokespecial 3, 3) := by decide +kernel
theorem dX4_init_4 : decode cX4_init 4 = .ok (.aload_n 0, 1) := by decide +kernel
theorem dX4_init_5 : decode cX4_init 5 = .ok (.sipush 400, 3) := by decide +kernel
theorem dX4_init_8 : decode cX4_init 8 = .ok (.newarray .int, 2) := by decide +kernel
theorem dX4_init_10 : decode cX4_init 10 = .ok (.putfield 9, 3) := by decide +kernel
theorem dX4_init_13 : decode cX4_init 13 = .ok (.aload_n 0, 1) := by decide +kernel
theorem dX4_init_14 : decode cX4_init 14 = .ok (.new 15, 3) := by decide +kernel
theorem dX4_init_17 : decode cX4_init 17 = .ok (.dup, 1) := by decide +kernel
theorem dX4_init_18 : decode cX4_init 18 = .ok (.invokespecial 17, 3) := by decide +kernel
theorem dX4_init_21 : decode cX4_init 21 = .ok (.putfield 18, 3) := by decide +kernel
theorem dX4_init_24 : decode cX4_init 24 = .ok (.aload_n 0, 1) := by decide +kernel
theorem dX4_init_25 : decode cX4_init 25 = .ok (.new 22, 3) := by decide +kernel
theorem dX4_init_28 : decode cX4_init 28 = .ok (.dup, 1) := by decide +kernel
theorem dX4_init_29 : decode cX4_init 29 = .ok (.invokespecial 24, 3) := by decide +kernel
theorem dX4_init_32 : decode cX4_init 32 = .ok (.putfield 25, 3) := by decide +kernel
theorem dX4_init_35 : decode cX4_init 35 = .ok (.return_, 1) := by decide +kernel
set_option maxHeartbeats 8000000 in
set_option maxRecDepth 100000 in
theorem yc_Reader {l : Launch} {D : va_G} {cA : Nat → ClassId} {h0 : Nat} : YCt l D cA yX4_init cX4_init 1 2 14 927 h0 [(h0, .inr (3, [.null, .int 0, .int 0, .int 0, .int 0, .int 0, .null, .null]))] (yp_Reader cA h0) := by
  refine yct (by decide +kernel) (by decide) (fun E hl hD hcA hN hIn hC hR => ?_)
  subst hl; subst hD; subst hcA
  refine yw_aload_n hC dX4_init_0 rfl 0 rfl ?_
  refine yw_obj hC (by decide) dX4_init_1 kw_1_222 kw_1_26 kw_1_27 ?_
  refine yw_aload_n hC dX4_init_4 rfl 0 rfl ?_
  refine yw_sipush hC (v := 400) dX4_init_5 (by decide) ?_
  refine yw_newa hC (atype := .int) (ty := .int) (t0 := 0) (c0 := ycA E 10) (N := 400) kw_1_125 rfl rfl yo_int (fun _ => rfl) (by decide) (by decide) (by decide) (Nat.le_of_ble_eq_true rfl) (Nat.le_of_ble_eq_true rfl) dX4_init_8 (fun q1 => ?_)
  refine yw_putF hC (hIn rfl) (ws' := ([(h0, .inr (3, [.ref q1, .int 0, .int 0, .int 0, .int 0, .int 0, .null, .null]))] ++ [(q1, .inl (ycA E 10, 400, .inl (fun _ => 0)))])) (ty := .array .int) zF_Reader_tape.1 0 (yget yg1) (by decide +kernel) rfl rfl (Nat.le_of_ble_eq_true rfl) kw_1_227 dX4_init_10 (yset ys1 yl1) ?_
  refine yw_aload_n hC dX4_init_13 rfl 0 rfl ?_
  refine yw_new hC (ci := 7) (N := 17) (T := TX8) (C := "ClassOfMany$Told") (fs := [.int 0, .int 0, .null, .null, .null, .null, .null, .null, .int 0, .int 0, .int 0, .int 0, .null, .null, .null, .int 0, .null]) rfl tyX8 tyX8_ok (fun j hj => by match j, hj with | 0, _ => rfl | 1, _ => rfl | 2, _ => rfl | 3, _ => rfl | 4, _ => rfl | 5, _ => rfl | 6, _ => rfl | 7, _ => rfl | 8, _ => rfl | 9, _ => rfl | 10, _ => rfl | 11, _ => rfl | 12, _ => rfl | 13, _ => rfl | 14, _ => rfl | 15, _ => rfl | 16, _ => rfl | k + 17, h => exact absurd h (by omega)) kw_1_223 kw_1_29 kw_1_2 (Nat.le_of_ble_eq_true rfl) (Nat.le_of_ble_eq_true rfl) dX4_init_14 (fun q2 => ?_)
  refine yw_dup hC dX4_init_17 rfl ?_
  refine yw_callN hC (yc_Told (h0 := q2)) kw_1_32 kw_1_2 (by decide +kernel) kw_1_31 rfl (by decide +kernel) (by decide) (by decide) (Nat.le_of_ble_eq_true rfl) dX4_init_18 (Nat.le_of_ble_eq_true rfl) (Nat.le_of_ble_eq_true rfl) (fun u3 => ?_)
  refine yw_put hC (ws' := (([(h0, .inr (3, [.ref q1, .int 0, .int 0, .int 0, .int 0, .int 0, .ref q2, .null]))] ++ [(q1, .inl (ycA E 10, 400, .inl (fun _ => 0)))]) ++ yp_Told (ycA E) q2 u3)) (ty := .object "ClassOfMany$Told") zF_Reader_told.1 0 (yget (yget yg1)) (by decide +kernel) rfl rfl (Nat.le_of_ble_eq_true rfl) kw_1_234 dX4_init_21 (yset (yset ys1 yl1) (ylen yl1)) ?_
  refine yw_aload_n hC dX4_init_24 rfl 0 rfl ?_
  refine yw_new hC (ci := 6) (N := 12) (T := TX7) (C := "ClassOfMany$Standing") (fs := [.int 0, .int 0, .int 0, .int 0, .int 0, .int 0, .int 0, .int 0, .int 0, .int 0, .int 0, .null]) rfl tyX7 tyX7_ok (fun j hj => by match j, hj with | 0, _ => rfl | 1, _ => rfl | 2, _ => rfl | 3, _ => rfl | 4, _ => rfl | 5, _ => rfl | 6, _ => rfl | 7, _ => rfl | 8, _ => rfl | 9, _ => rfl | 10, _ => rfl | 11, _ => rfl | k + 12, h => exact absurd h (by omega)) kw_1_225 kw_1_127 kw_1_3 (Nat.le_of_ble_eq_true rfl) (Nat.le_of_ble_eq_true rfl) dX4_init_25 (fun q4 => ?_)
  refine yw_dup hC dX4_init_28 rfl ?_
  refine yw_callN hC (yc_Standing (h0 := q4)) kw_1_130 kw_1_3 (by decide +kernel) kw_1_129 rfl (by decide +kernel) (by decide) (by decide) (Nat.le_of_ble_eq_true rfl) dX4_init_29 (Nat.le_of_ble_eq_true rfl) (Nat.le_of_ble_eq_true rfl) (fun u5 => ?_)
  refine yw_putF hC (hIn rfl) (ws' := ((([(h0, .inr (3, [.ref q1, .int 0, .int 0, .int 0, .int 0, .int 0, .ref q2, .ref q4]))] ++ [(q1, .inl (ycA E 10, 400, .inl (fun _ => 0)))]) ++ yp_Told (ycA E) q2 u3) ++ yp_Standing (ycA E) q4 u5)) (ty := .object "ClassOfMany$Standing") zF_Reader_standing.1 0 (yget (yget (yget yg1))) (by decide +kernel) rfl rfl (Nat.le_of_ble_eq_true rfl) kw_1_236 dX4_init_32 (yset (yset (yset ys1 yl1) (ylen yl1)) (ylen (ylen yl1))) ?_
  exact yw_ret hC hR (q1, q2, u3, q4, u5) rfl dX4_init_35
theorem dX6_init_0 : decode cX6_init 0 = .ok (.aload_n 0, 1) := by decide +kernel
theorem dX6_init_1 : decode cX6_init 1 = .ok (.invokespecial 3, 3) := by decide +kernel
theorem dX6_init_4 : decode cX6_init 4 = .ok (.aload_n 0, 1) := by decide +kernel
theorem dX6_init_5 : decode cX6_init 5 = .ok (.bipush 10, 2) := by decide +kernel
theorem dX6_init_7 : decode cX6_init 7 = .ok (.newarray .int, 2) := by decide +kernel
theorem dX6_init_9 : decode cX6_init 9 = .ok (.putfield 9, 3) := by decide +kernel
theorem dX6_init_12 : decode cX6_init 12 = .ok (.aload_n 0, 1) := by decide +kernel
theorem dX6_init_13 : decode cX6_init 13 = .ok (.bipush 10, 2) := by decide +kernel
theorem dX6_init_15 : decode cX6_init 15 = .ok (.newarray .int, 2) := by decide +kernel
theorem dX6_init_17 : decode cX6_init 17 = .ok (.putfield 15, 3) := by decide +kernel
theorem dX6_init_20 : decode cX6_init 20 = .ok (.aload_n 0, 1) := by decide +kernel
theorem dX6_init_21 : decode cX6_init 21 = .ok (.sipush 1024, 3) := by decide +kernel
theorem dX6_init_24 : decode cX6_init 24 = .ok (.newarray .boolean, 2) := by decide +kernel
theorem dX6_init_26 : decode cX6_init 26 = .ok (.putfield 18, 3) := by decide +kernel
theorem dX6_init_29 : decode cX6_init 29 = .ok (.aload_n 0, 1) := by decide +kernel
theorem dX6_init_30 : decode cX6_init 30 = .ok (.sipush 1024, 3) := by decide +kernel
theorem dX6_init_33 : decode cX6_init 33 = .ok (.newarray .int, 2) := by decide +kernel
theorem dX6_init_35 : decode cX6_init 35 = .ok (.putfield 22, 3) := by decide +kernel
theorem dX6_init_38 : decode cX6_init 38 = .ok (.aload_n 0, 1) := by decide +kernel
theorem dX6_init_39 : decode cX6_init 39 = .ok (.sipush 1024, 3) := by decide +kernel
theorem dX6_init_42 : decode cX6_init 42 = .ok (.newarray .int, 2) := by decide +kernel
theorem dX6_init_44 : decode cX6_init 44 = .ok (.putfield 25, 3) := by decide +kernel
theorem dX6_init_47 : decode cX6_init 47 = .ok (.return_, 1) := by decide +kernel
set_option maxHeartbeats 8000000 in
set_option maxRecDepth 100000 in
theorem yc_Splitter {l : Launch} {D : va_G} {cA : Nat → ClassId} {h0 : Nat} : YCt l D cA yX6_init cX6_init 1 1 5 3092 h0 [(h0, .inr (5, [.int 0, .int 0, .int 0, .null, .null, .int 0, .null, .null, .null]))] (yp_Splitter cA h0) := by
  refine yct (by decide +kernel) (by decide) (fun E hl hD hcA hN hIn hC hR => ?_)
  subst hl; subst hD; subst hcA
  refine yw_aload_n hC dX6_init_0 rfl 0 rfl ?_
  refine yw_obj hC (by decide) dX6_init_1 kw_2_20 kw_1_26 kw_1_27 ?_
  refine yw_aload_n hC dX6_init_4 rfl 0 rfl ?_
  refine yw_bipush hC (v := 10) dX6_init_5 (by decide) ?_
  refine yw_newa hC (atype := .int) (ty := .int) (t0 := 0) (c0 := ycA E 10) (N := 10) kw_1_125 rfl rfl yo_int (fun _ => rfl) (by decide) (by decide) (by decide) (Nat.le_of_ble_eq_true rfl) (Nat.le_of_ble_eq_true rfl) dX6_init_7 (fun q1 => ?_)
  refine yw_putF hC (hIn rfl) (ws' := ([(h0, .inr (5, [.int 0, .int 0, .int 0, .ref q1, .null, .int 0, .null, .null, .null]))] ++ [(q1, .inl (ycA E 10, 10, .inl (fun _ => 0)))])) (ty := .array .int) zF_Splitter_foes.1 0 (yget yg1) (by decide +kernel) rfl rfl (Nat.le_of_ble_eq_true rfl) kw_2_24 dX6_init_9 (yset ys1 yl1) ?_
  refine yw_aload_n hC dX6_init_12 rfl 0 rfl ?_
  refine yw_bipush hC (v := 10) dX6_init_13 (by decide) ?_
  refine yw_newa hC (atype := .int) (ty := .int) (t0 := 0) (c0 := ycA E 10) (N := 10) kw_1_125 rfl rfl yo_int (fun _ => rfl) (by decide) (by decide) (by decide) (Nat.le_of_ble_eq_true rfl) (Nat.le_of_ble_eq_true rfl) dX6_init_15 (fun q2 => ?_)
  refine yw_putF hC (hIn rfl) (ws' := (([(h0, .inr (5, [.int 0, .int 0, .int 0, .ref q1, .ref q2, .int 0, .null, .null, .null]))] ++ [(q1, .inl (ycA E 10, 10, .inl (fun _ => 0)))]) ++ [(q2, .inl (ycA E 10, 10, .inl (fun _ => 0)))])) (ty := .array .int) zF_Splitter_groups.1 0 (yget (yget yg1)) (by decide +kernel) rfl rfl (Nat.le_of_ble_eq_true rfl) kw_2_25 dX6_init_17 (yset (yset ys1 yl1) (ylen yl1)) ?_
  refine yw_aload_n hC dX6_init_20 rfl 0 rfl ?_
  refine yw_sipush hC (v := 1024) dX6_init_21 (by decide) ?_
  refine yw_newa hC (atype := .boolean) (ty := .boolean) (t0 := 2) (c0 := ycA E 12) (N := 1024) kw_2_51 rfl rfl yo_boolean (fun _ => rfl) (by decide) (by decide) (by decide) (Nat.le_of_ble_eq_true rfl) (Nat.le_of_ble_eq_true rfl) dX6_init_24 (fun q3 => ?_)
  refine yw_putF hC (hIn rfl) (ws' := ((([(h0, .inr (5, [.int 0, .int 0, .int 0, .ref q1, .ref q2, .int 0, .ref q3, .null, .null]))] ++ [(q1, .inl (ycA E 10, 10, .inl (fun _ => 0)))]) ++ [(q2, .inl (ycA E 10, 10, .inl (fun _ => 0)))]) ++ [(q3, .inl (ycA E 12, 1024, .inl (fun _ => 0)))])) (ty := .array .boolean) zF_Splitter_peaceful.1 0 (yget (yget (yget yg1))) (by decide +kernel) rfl rfl (Nat.le_of_ble_eq_true rfl) kw_2_29 dX6_init_26 (yset (yset (yset ys1 yl1) (ylen yl1)) (ylen (ylen yl1))) ?_
  refine yw_aload_n hC dX6_init_29 rfl 0 rfl ?_
  refine yw_sipush hC (v := 1024) dX6_init_30 (by decide) ?_
  refine yw_newa hC (atype := .int) (ty := .int) (t0 := 0) (c0 := ycA E 10) (N := 1024) kw_1_125 rfl rfl yo_int (fun _ => rfl) (by decide) (by decide) (by decide) (Nat.le_of_ble_eq_true rfl) (Nat.le_of_ble_eq_true rfl) dX6_init_33 (fun q4 => ?_)
  refine yw_put hC (ws' := (((([(h0, .inr (5, [.int 0, .int 0, .int 0, .ref q1, .ref q2, .int 0, .ref q3, .ref q4, .null]))] ++ [(q1, .inl (ycA E 10, 10, .inl (fun _ => 0)))]) ++ [(q2, .inl (ycA E 10, 10, .inl (fun _ => 0)))]) ++ [(q3, .inl (ycA E 12, 1024, .inl (fun _ => 0)))]) ++ [(q4, .inl (ycA E 10, 1024, .inl (fun _ => 0)))])) (ty := .array .int) zF_Splitter_ways.1 0 (yget (yget (yget (yget yg1)))) (by decide +kernel) rfl rfl (Nat.le_of_ble_eq_true rfl) kw_2_30 dX6_init_35 (yset (yset (yset (yset ys1 yl1) (ylen yl1)) (ylen (ylen yl1))) (ylen (ylen (ylen yl1)))) ?_
  refine yw_aload_n hC dX6_init_38 rfl 0 rfl ?_
  refine yw_sipush hC (v := 1024) dX6_init_39 (by decide) ?_
  refine yw_newa hC (atype := .int) (ty := .int) (t0 := 0) (c0 := ycA E 10) (N := 1024) kw_1_125 rfl rfl yo_int (fun _ => rfl) (by decide) (by decide) (by decide) (Nat.le_of_ble_eq_true rfl) (Nat.le_of_ble_eq_true rfl) dX6_init_42 (fun q5 => ?_)
  refine yw_put hC (ws' := ((((([(h0, .inr (5, [.int 0, .int 0, .int 0, .ref q1, .ref q2, .int 0, .ref q3, .ref q4, .ref q5]))] ++ [(q1, .inl (ycA E 10, 10, .inl (fun _ => 0)))]) ++ [(q2, .inl (ycA E 10, 10, .inl (fun _ => 0)))]) ++ [(q3, .inl (ycA E 12, 1024, .inl (fun _ => 0)))]) ++ [(q4, .inl (ycA E 10, 1024, .inl (fun _ => 0)))]) ++ [(q5, .inl (ycA E 10, 1024, .inl (fun _ => 0)))])) (ty := .array .int) zF_Splitter_fewerWays.1 0 (yget (yget (yget (yget (yget yg1))))) (by decide +kernel) rfl rfl (Nat.le_of_ble_eq_true rfl) kw_2_31 dX6_init_44 (yset (yset (yset (yset (yset ys1 yl1) (ylen yl1)) (ylen (ylen yl1))) (ylen (ylen (ylen yl1)))) (ylen (ylen (ylen (ylen yl1))))) ?_
  exact yw_ret hC hR (fun i => [(h0), (q1), (q2), (q3), (q4), (q5)].getD i 0) rfl dX6_init_47
theorem dX3_init_0 : decode cX3_init 0 = .ok (.aload_n 0, 1) := by decide +kernel
theorem dX3_init_1 : decode cX3_init 1 = .ok (.invokespecial 3, 3) := by decide +kernel
theorem dX3_init_4 : decode cX3_init 4 = .ok (.aload_n 0, 1) := by decide +kernel
theorem dX3_init_5 : decode cX3_init 5 = .ok (.bipush 10, 2) := by decide +kernel
theorem dX3_init_7 : decode cX3_init 7 = .ok (.newarray .int, 2) := by decide +kernel
theorem dX3_init_9 : decode cX3_init 9 = .ok (.putfield 9, 3) := by decide +kernel
theorem dX3_init_12 : decode cX3_init 12 = .ok (.aload_n 0, 1) := by decide +kernel
theorem dX3_init_13 : decode cX3_init 13 = .ok (.bipush 10, 2) := by decide +kernel
theorem dX3_init_15 : decode cX3_init 15 = .ok (.newarray .int, 2) := by decide +kernel
theorem dX3_init_17 : decode cX3_init 17 = .ok (.putfield 15, 3) := by decide +kernel
theorem dX3_init_20 : decode cX3_init 20 = .ok (.aload_n 0, 1) := by decide +kernel
theorem dX3_init_21 : decode cX3_init 21 = .ok (.bipush 10, 2) := by decide +kernel
theorem dX3_init_23 : decode cX3_init 23 = .ok (.newarray .int, 2) := by decide +kernel
theorem dX3_init_25 : decode cX3_init 25 = .ok (.putfield 18, 3) := by decide +kernel
theorem dX3_init_28 : decode cX3_init 28 = .ok (.aload_n 0, 1) := by decide +kernel
theorem dX3_init_29 : decode cX3_init 29 = .ok (.bipush 10, 2) := by decide +kernel
theorem dX3_init_31 : decode cX3_init 31 = .ok (.newarray .int, 2) := by decide +kernel
theorem dX3_init_33 : decode cX3_init 33 = .ok (.putfield 21, 3) := by decide +kernel
theorem dX3_init_36 : decode cX3_init 36 = .ok (.aload_n 0, 1) := by decide +kernel
theorem dX3_init_37 : decode cX3_init 37 = .ok (.bipush 10, 2) := by decide +kernel
theorem dX3_init_39 : decode cX3_init 39 = .ok (.newarray .int, 2) := by decide +kernel
theorem dX3_init_41 : decode cX3_init 41 = .ok (.putfield 24, 3) := by decide +kernel
theorem dX3_init_44 : decode cX3_init 44 = .ok (.aload_n 0, 1) := by decide +kernel
theorem dX3_init_45 : decode cX3_init 45 = .ok (.bipush 10, 2) := by decide +kernel
theorem dX3_init_47 : decode cX3_init 47 = .ok (.newarray .int, 2) := by decide +kernel
theorem dX3_init_49 : decode cX3_init 49 = .ok (.putfield 27, 3) := by decide +kernel
theorem dX3_init_52 : decode cX3_init 52 = .ok (.aload_n 0, 1) := by decide +kernel
theorem dX3_init_53 : decode cX3_init 53 = .ok (.bipush 90, 2) := by decide +kernel
theorem dX3_init_55 : decode cX3_init 55 = .ok (.newarray .int, 2) := by decide +kernel
theorem dX3_init_57 : decode cX3_init 57 = .ok (.putfield 30, 3) := by decide +kernel
theorem dX3_init_60 : decode cX3_init 60 = .ok (.return_, 1) := by decide +kernel
set_option maxHeartbeats 8000000 in
set_option maxRecDepth 100000 in
theorem yc_Payer {l : Launch} {D : va_G} {cA : Nat → ClassId} {h0 : Nat} : YCt l D cA yX3_init cX3_init 1 1 7 150 h0 [(h0, .inr (2, [.null, .null, .null, .null, .null, .null, .null, .int 0, .int 0, .int 0, .int 0, .int 0, .int 0, .int 0, .int 0, .int 0, .int 0, .int 0]))] (yp_Payer cA h0) := by
  refine yct (by decide +kernel) (by decide) (fun E hl hD hcA hN hIn hC hR => ?_)
  subst hl; subst hD; subst hcA
  refine yw_aload_n hC dX3_init_0 rfl 0 rfl ?_
  refine yw_obj hC (by decide) dX3_init_1 kw_2_57 kw_1_26 kw_1_27 ?_
  refine yw_aload_n hC dX3_init_4 rfl 0 rfl ?_
  refine yw_bipush hC (v := 10) dX3_init_5 (by decide) ?_
  refine yw_newa hC (atype := .int) (ty := .int) (t0 := 0) (c0 := ycA E 10) (N := 10) kw_1_125 rfl rfl yo_int (fun _ => rfl) (by decide) (by decide) (by decide) (Nat.le_of_ble_eq_true rfl) (Nat.le_of_ble_eq_true rfl) dX3_init_7 (fun q1 => ?_)
  refine yw_putF hC (hIn rfl) (ws' := ([(h0, .inr (2, [.ref q1, .null, .null, .null, .null, .null, .null, .int 0, .int 0, .int 0, .int 0, .int 0, .int 0, .int 0, .int 0, .int 0, .int 0, .int 0]))] ++ [(q1, .inl (ycA E 10, 10, .inl (fun _ => 0)))])) (ty := .array .int) zF_Payer_claims.1 0 (yget yg1) (by decide +kernel) rfl rfl (Nat.le_of_ble_eq_true rfl) kw_2_58 dX3_init_9 (yset ys1 yl1) ?_
  refine yw_aload_n hC dX3_init_12 rfl 0 rfl ?_
  refine yw_bipush hC (v := 10) dX3_init_13 (by decide) ?_
  refine yw_newa hC (atype := .int) (ty := .int) (t0 := 0) (c0 := ycA E 10) (N := 10) kw_1_125 rfl rfl yo_int (fun _ => rfl) (by decide) (by decide) (by decide) (Nat.le_of_ble_eq_true rfl) (Nat.le_of_ble_eq_true rfl) dX3_init_15 (fun q2 => ?_)
  refine yw_putF hC (hIn rfl) (ws' := (([(h0, .inr (2, [.ref q1, .ref q2, .null, .null, .null, .null, .null, .int 0, .int 0, .int 0, .int 0, .int 0, .int 0, .int 0, .int 0, .int 0, .int 0, .int 0]))] ++ [(q1, .inl (ycA E 10, 10, .inl (fun _ => 0)))]) ++ [(q2, .inl (ycA E 10, 10, .inl (fun _ => 0)))])) (ty := .array .int) zF_Payer_groupOf.1 0 (yget (yget yg1)) (by decide +kernel) rfl rfl (Nat.le_of_ble_eq_true rfl) kw_2_60 dX3_init_17 (yset (yset ys1 yl1) (ylen yl1)) ?_
  refine yw_aload_n hC dX3_init_20 rfl 0 rfl ?_
  refine yw_bipush hC (v := 10) dX3_init_21 (by decide) ?_
  refine yw_newa hC (atype := .int) (ty := .int) (t0 := 0) (c0 := ycA E 10) (N := 10) kw_1_125 rfl rfl yo_int (fun _ => rfl) (by decide) (by decide) (by decide) (Nat.le_of_ble_eq_true rfl) (Nat.le_of_ble_eq_true rfl) dX3_init_23 (fun q3 => ?_)
  refine yw_putF hC (hIn rfl) (ws' := ((([(h0, .inr (2, [.ref q1, .ref q2, .ref q3, .null, .null, .null, .null, .int 0, .int 0, .int 0, .int 0, .int 0, .int 0, .int 0, .int 0, .int 0, .int 0, .int 0]))] ++ [(q1, .inl (ycA E 10, 10, .inl (fun _ => 0)))]) ++ [(q2, .inl (ycA E 10, 10, .inl (fun _ => 0)))]) ++ [(q3, .inl (ycA E 10, 10, .inl (fun _ => 0)))])) (ty := .array .int) zF_Payer_groupClaims.1 0 (yget (yget (yget yg1))) (by decide +kernel) rfl rfl (Nat.le_of_ble_eq_true rfl) kw_2_61 dX3_init_25 (yset (yset (yset ys1 yl1) (ylen yl1)) (ylen (ylen yl1))) ?_
  refine yw_aload_n hC dX3_init_28 rfl 0 rfl ?_
  refine yw_bipush hC (v := 10) dX3_init_29 (by decide) ?_
  refine yw_newa hC (atype := .int) (ty := .int) (t0 := 0) (c0 := ycA E 10) (N := 10) kw_1_125 rfl rfl yo_int (fun _ => rfl) (by decide) (by decide) (by decide) (Nat.le_of_ble_eq_true rfl) (Nat.le_of_ble_eq_true rfl) dX3_init_31 (fun q4 => ?_)
  refine yw_putF hC (hIn rfl) (ws' := (((([(h0, .inr (2, [.ref q1, .ref q2, .ref q3, .ref q4, .null, .null, .null, .int 0, .int 0, .int 0, .int 0, .int 0, .int 0, .int 0, .int 0, .int 0, .int 0, .int 0]))] ++ [(q1, .inl (ycA E 10, 10, .inl (fun _ => 0)))]) ++ [(q2, .inl (ycA E 10, 10, .inl (fun _ => 0)))]) ++ [(q3, .inl (ycA E 10, 10, .inl (fun _ => 0)))]) ++ [(q4, .inl (ycA E 10, 10, .inl (fun _ => 0)))])) (ty := .array .int) zF_Payer_groupHeads.1 0 (yget (yget (yget (yget yg1)))) (by decide +kernel) rfl rfl (Nat.le_of_ble_eq_true rfl) kw_2_62 dX3_init_33 (yset (yset (yset (yset ys1 yl1) (ylen yl1)) (ylen (ylen yl1))) (ylen (ylen (ylen yl1)))) ?_
  refine yw_aload_n hC dX3_init_36 rfl 0 rfl ?_
  refine yw_bipush hC (v := 10) dX3_init_37 (by decide) ?_
  refine yw_newa hC (atype := .int) (ty := .int) (t0 := 0) (c0 := ycA E 10) (N := 10) kw_1_125 rfl rfl yo_int (fun _ => rfl) (by decide) (by decide) (by decide) (Nat.le_of_ble_eq_true rfl) (Nat.le_of_ble_eq_true rfl) dX3_init_39 (fun q5 => ?_)
  refine yw_putF hC (hIn rfl) (ws' := ((((([(h0, .inr (2, [.ref q1, .ref q2, .ref q3, .ref q4, .ref q5, .null, .null, .int 0, .int 0, .int 0, .int 0, .int 0, .int 0, .int 0, .int 0, .int 0, .int 0, .int 0]))] ++ [(q1, .inl (ycA E 10, 10, .inl (fun _ => 0)))]) ++ [(q2, .inl (ycA E 10, 10, .inl (fun _ => 0)))]) ++ [(q3, .inl (ycA E 10, 10, .inl (fun _ => 0)))]) ++ [(q4, .inl (ycA E 10, 10, .inl (fun _ => 0)))]) ++ [(q5, .inl (ycA E 10, 10, .inl (fun _ => 0)))])) (ty := .array .int) zF_Payer_pots.1 0 (yget (yget (yget (yget (yget yg1))))) (by decide +kernel) rfl rfl (Nat.le_of_ble_eq_true rfl) kw_2_63 dX3_init_41 (yset (yset (yset (yset (yset ys1 yl1) (ylen yl1)) (ylen (ylen yl1))) (ylen (ylen (ylen yl1)))) (ylen (ylen (ylen (ylen yl1))))) ?_
  refine yw_aload_n hC dX3_init_44 rfl 0 rfl ?_
  refine yw_bipush hC (v := 10) dX3_init_45 (by decide) ?_
  refine yw_newa hC (atype := .int) (ty := .int) (t0 := 0) (c0 := ycA E 10) (N := 10) kw_1_125 rfl rfl yo_int (fun _ => rfl) (by decide) (by decide) (by decide) (Nat.le_of_ble_eq_true rfl) (Nat.le_of_ble_eq_true rfl) dX3_init_47 (fun q6 => ?_)
  refine yw_putF hC (hIn rfl) (ws' := (((((([(h0, .inr (2, [.ref q1, .ref q2, .ref q3, .ref q4, .ref q5, .ref q6, .null, .int 0, .int 0, .int 0, .int 0, .int 0, .int 0, .int 0, .int 0, .int 0, .int 0, .int 0]))] ++ [(q1, .inl (ycA E 10, 10, .inl (fun _ => 0)))]) ++ [(q2, .inl (ycA E 10, 10, .inl (fun _ => 0)))]) ++ [(q3, .inl (ycA E 10, 10, .inl (fun _ => 0)))]) ++ [(q4, .inl (ycA E 10, 10, .inl (fun _ => 0)))]) ++ [(q5, .inl (ycA E 10, 10, .inl (fun _ => 0)))]) ++ [(q6, .inl (ycA E 10, 10, .inl (fun _ => 0)))])) (ty := .array .int) zF_Payer_paidTo.1 0 (yget (yget (yget (yget (yget (yget yg1)))))) (by decide +kernel) rfl rfl (Nat.le_of_ble_eq_true rfl) kw_2_65 dX3_init_49 (yset (yset (yset (yset (yset (yset ys1 yl1) (ylen yl1)) (ylen (ylen yl1))) (ylen (ylen (ylen yl1)))) (ylen (ylen (ylen (ylen yl1))))) (ylen (ylen (ylen (ylen (ylen yl1)))))) ?_
  refine yw_aload_n hC dX3_init_52 rfl 0 rfl ?_
  refine yw_bipush hC (v := 90) dX3_init_53 (by decide) ?_
  refine yw_newa hC (atype := .int) (ty := .int) (t0 := 0) (c0 := ycA E 10) (N := 90) kw_1_125 rfl rfl yo_int (fun _ => rfl) (by decide) (by decide) (by decide) (Nat.le_of_ble_eq_true rfl) (Nat.le_of_ble_eq_true rfl) dX3_init_55 (fun q7 => ?_)
  refine yw_putF hC (hIn rfl) (ws' := ((((((([(h0, .inr (2, [.ref q1, .ref q2, .ref q3, .ref q4, .ref q5, .ref q6, .ref q7, .int 0, .int 0, .int 0, .int 0, .int 0, .int 0, .int 0, .int 0, .int 0, .int 0, .int 0]))] ++ [(q1, .inl (ycA E 10, 10, .inl (fun _ => 0)))]) ++ [(q2, .inl (ycA E 10, 10, .inl (fun _ => 0)))]) ++ [(q3, .inl (ycA E 10, 10, .inl (fun _ => 0)))]) ++ [(q4, .inl (ycA E 10, 10, .inl (fun _ => 0)))]) ++ [(q5, .inl (ycA E 10, 10, .inl (fun _ => 0)))]) ++ [(q6, .inl (ycA E 10, 10, .inl (fun _ => 0)))]) ++ [(q7, .inl (ycA E 10, 90, .inl (fun _ => 0)))])) (ty := .array .int) zF_Payer_hadIn.1 0 (yget (yget (yget (yget (yget (yget (yget yg1))))))) (by decide +kernel) rfl rfl (Nat.le_of_ble_eq_true rfl) kw_2_68 dX3_init_57 (yset (yset (yset (yset (yset (yset (yset ys1 yl1) (ylen yl1)) (ylen (ylen yl1))) (ylen (ylen (ylen yl1)))) (ylen (ylen (ylen (ylen yl1))))) (ylen (ylen (ylen (ylen (ylen yl1)))))) (ylen (ylen (ylen (ylen (ylen (ylen yl1))))))) ?_
  exact yw_ret hC hR (fun i => [(h0), (q1), (q2), (q3), (q4), (q5), (q6), (q7)].getD i 0) rfl dX3_init_60
theorem dX5_init_0 : decode cX5_init 0 = .ok (.aload_n 0, 1) := by decide +kernel
theorem dX5_init_1 : decode cX5_init 1 = .ok (.invokespecial 3, 3) := by decide +kernel
theorem dX5_init_4 : decode cX5_init 4 = .ok (.aload_n 0, 1) := by decide +kernel
theorem dX5_init_5 : decode cX5_init 5 = .ok (.sipush 1024, 3) := by decide +kernel
theorem dX5_init_8 : decode cX5_init 8 = .ok (.newarray .int, 2) := by decide +kernel
theorem dX5_init_10 : decode cX5_init 10 = .ok (.putfield 9, 3) := by decide +kernel
theorem dX5_init_13 : decode cX5_init 13 = .ok (.aload_n 0, 1) := by decide +kernel
theorem dX5_init_14 : decode cX5_init 14 = .ok (.sipush 1024, 3) := by decide +kernel
theorem dX5_init_17 : decode cX5_init 17 = .ok (.newarray .int, 2) := by decide +kernel
theorem dX5_init_19 : decode cX5_init 19 = .ok (.putfield 15, 3) := by decide +kernel
theorem dX5_init_22 : decode cX5_init 22 = .ok (.aload_n 0, 1) := by decide +kernel
theorem dX5_init_23 : decode cX5_init 23 = .ok (.bipush 10, 2) := by decide +kernel
theorem dX5_init_25 : decode cX5_init 25 = .ok (.newarray .int, 2) := by decide +kernel
theorem dX5_init_27 : decode cX5_init 27 = .ok (.putfield 18, 3) := by decide +kernel
theorem dX5_init_30 : decode cX5_init 30 = .ok (.return_, 1) := by decide +kernel
set_option maxHeartbeats 8000000 in
set_option maxRecDepth 100000 in
theorem yc_Resting {l : Launch} {D : va_G} {cA : Nat → ClassId} {h0 : Nat} : YCt l D cA yX5_init cX5_init 1 1 3 2058 h0 [(h0, .inr (4, [.int 0, .int 0, .int 0, .int 0, .null, .null, .null]))] (yp_Resting cA h0) := by
  refine yct (by decide +kernel) (by decide) (fun E hl hD hcA hN hIn hC hR => ?_)
  subst hl; subst hD; subst hcA
  refine yw_aload_n hC dX5_init_0 rfl 0 rfl ?_
  refine yw_obj hC (by decide) dX5_init_1 kw_2_129 kw_1_26 kw_1_27 ?_
  refine yw_aload_n hC dX5_init_4 rfl 0 rfl ?_
  refine yw_sipush hC (v := 1024) dX5_init_5 (by decide) ?_
  refine yw_newa hC (atype := .int) (ty := .int) (t0 := 0) (c0 := ycA E 10) (N := 1024) kw_1_125 rfl rfl yo_int (fun _ => rfl) (by decide) (by decide) (by decide) (Nat.le_of_ble_eq_true rfl) (Nat.le_of_ble_eq_true rfl) dX5_init_8 (fun q1 => ?_)
  refine yw_putF hC (hIn rfl) (ws' := ([(h0, .inr (4, [.int 0, .int 0, .int 0, .int 0, .ref q1, .null, .null]))] ++ [(q1, .inl (ycA E 10, 1024, .inl (fun _ => 0)))])) (ty := .array .int) zF_Resting_sets.1 0 (yget yg1) (by decide +kernel) rfl rfl (Nat.le_of_ble_eq_true rfl) kw_2_135 dX5_init_10 (yset ys1 yl1) ?_
  refine yw_aload_n hC dX5_init_13 rfl 0 rfl ?_
  refine yw_sipush hC (v := 1024) dX5_init_14 (by decide) ?_
  refine yw_newa hC (atype := .int) (ty := .int) (t0 := 0) (c0 := ycA E 10) (N := 1024) kw_1_125 rfl rfl yo_int (fun _ => rfl) (by decide) (by decide) (by decide) (Nat.le_of_ble_eq_true rfl) (Nat.le_of_ble_eq_true rfl) dX5_init_17 (fun q2 => ?_)
  refine yw_putF hC (hIn rfl) (ws' := (([(h0, .inr (4, [.int 0, .int 0, .int 0, .int 0, .ref q1, .ref q2, .null]))] ++ [(q1, .inl (ycA E 10, 1024, .inl (fun _ => 0)))]) ++ [(q2, .inl (ycA E 10, 1024, .inl (fun _ => 0)))])) (ty := .array .int) zF_Resting_gladIn.1 0 (yget (yget yg1)) (by decide +kernel) rfl rfl (Nat.le_of_ble_eq_true rfl) kw_2_137 dX5_init_19 (yset (yset ys1 yl1) (ylen yl1)) ?_
  refine yw_aload_n hC dX5_init_22 rfl 0 rfl ?_
  refine yw_bipush hC (v := 10) dX5_init_23 (by decide) ?_
  refine yw_newa hC (atype := .int) (ty := .int) (t0 := 0) (c0 := ycA E 10) (N := 10) kw_1_125 rfl rfl yo_int (fun _ => rfl) (by decide) (by decide) (by decide) (Nat.le_of_ble_eq_true rfl) (Nat.le_of_ble_eq_true rfl) dX5_init_25 (fun q3 => ?_)
  refine yw_putF hC (hIn rfl) (ws' := ((([(h0, .inr (4, [.int 0, .int 0, .int 0, .int 0, .ref q1, .ref q2, .ref q3]))] ++ [(q1, .inl (ycA E 10, 1024, .inl (fun _ => 0)))]) ++ [(q2, .inl (ycA E 10, 1024, .inl (fun _ => 0)))]) ++ [(q3, .inl (ycA E 10, 10, .inl (fun _ => 0)))])) (ty := .array .int) zF_Resting_outside.1 0 (yget (yget (yget yg1))) (by decide +kernel) rfl rfl (Nat.le_of_ble_eq_true rfl) kw_2_138 dX5_init_27 (yset (yset (yset ys1 yl1) (ylen yl1)) (ylen (ylen yl1))) ?_
  exact yw_ret hC hR (fun i => [(h0), (q1), (q2), (q3)].getD i 0) rfl dX5_init_30
theorem dX2_init_0 : decode cX2_init 0 = .ok (.aload_n 0, 1) := by decide +kernel
theorem dX2_init_1 : decode cX2_init 1 = .ok (.invokespecial 3, 3) := by decide +kernel
theorem dX2_init_4 : decode cX2_init 4 = .ok (.aload_n 0, 1) := by decide +kernel
theorem dX2_init_5 : decode cX2_init 5 = .ok (.sipush 1024, 3) := by decide +kernel
theorem dX2_init_8 : decode cX2_init 8 = .ok (.newarray .byte, 2) := by decide +kernel
theorem dX2_init_10 : decode cX2_init 10 = .ok (.putfield 9, 3) := by decide +kernel
theorem dX2_init_13 : decode cX2_init 13 = .ok (.return_, 1) := by decide +kernel
set_option maxHeartbeats 8000000 in
set_option maxRecDepth 100000 in
theorem yc_Page {l : Launch} {D : va_G} {cA : Nat → ClassId} {h0 : Nat} : YCt l D cA yX2_init cX2_init 1 1 1 1024 h0 [(h0, .inr (1, [.null, .int 0]))] (yp_Page cA h0) := by
  refine yct (by decide +kernel) (by decide) (fun E hl hD hcA hN hIn hC hR => ?_)
  subst hl; subst hD; subst hcA
  refine yw_aload_n hC dX2_init_0 rfl 0 rfl ?_
  refine yw_obj hC (by decide) dX2_init_1 kw_2_159 kw_1_26 kw_1_27 ?_
  refine yw_aload_n hC dX2_init_4 rfl 0 rfl ?_
  refine yw_sipush hC (v := 1024) dX2_init_5 (by decide) ?_
  refine yw_newa hC (atype := .byte) (ty := .byte) (t0 := 1) (c0 := ycA E 11) (N := 1024) kw_2_167 rfl rfl yo_byte (fun _ => rfl) (by decide) (by decide) (by decide) (Nat.le_of_ble_eq_true rfl) (Nat.le_of_ble_eq_true rfl) dX2_init_8 (fun q1 => ?_)
  refine yw_putF hC (hIn rfl) (ws' := ([(h0, .inr (1, [.ref q1, .int 0]))] ++ [(q1, .inl (ycA E 11, 1024, .inl (fun _ => 0)))])) (ty := .array .byte) zF_Page_row.1 0 (yget yg1) (by decide +kernel) rfl rfl (Nat.le_of_ble_eq_true rfl) kw_2_160 dX2_init_10 (yset ys1 yl1) ?_
  exact yw_ret hC hR (fun i => [(h0), (q1)].getD i 0) rfl dX2_init_13
