theorem dX9_init_0 : decode cX9_init 0 = .ok (.aload_n 0, 1) := by decide +kernel
theorem dX9_init_1 : decode cX9_init 1 = .ok (.invokespecial 3, 3) := by decide +kernel
theorem dX9_init_4 : decode cX9_init 4 = .ok (.aload_n 0, 1) := by decide +kernel
theorem dX9_init_5 : decode cX9_init 5 = .ok (.new 9, 3) := by decide +kernel
theorem dX9_init_8 : decode cX9_init 8 = .ok (.dup, 1) := by decide +kernel
theorem dX9_init_9 : decode cX9_init 9 = .ok (.invokespecial 11, 3) := by decide +kernel
theorem dX9_init_12 : decode cX9_init 12 = .ok (.putfield 12, 3) := by decide +kernel
theorem dX9_init_15 : decode cX9_init 15 = .ok (.aload_n 0, 1) := by decide +kernel
theorem dX9_init_16 : decode cX9_init 16 = .ok (.new 16, 3) := by decide +kernel
theorem dX9_init_19 : decode cX9_init 19 = .ok (.dup, 1) := by decide +kernel
theorem dX9_init_20 : decode cX9_init 20 = .ok (.invokespecial 18, 3) := by decide +kernel
theorem dX9_init_23 : decode cX9_init 23 = .ok (.putfield 19, 3) := by decide +kernel
theorem dX9_init_26 : decode cX9_init 26 = .ok (.aload_n 0, 1) := by decide +kernel
theorem dX9_init_27 : decode cX9_init 27 = .ok (.new 16, 3) := by decide +kernel
theorem dX9_init_30 : decode cX9_init 30 = .ok (.dup, 1) := by decide +kernel
theorem dX9_init_31 : decode cX9_init 31 = .ok (.invokespecial 18, 3) := by decide +kernel
theorem dX9_init_34 : decode cX9_init 34 = .ok (.putfield 23, 3) := by decide +kernel
theorem dX9_init_37 : decode cX9_init 37 = .ok (.aload_n 0, 1) := by decide +kernel
theorem dX9_init_38 : decode cX9_init 38 = .ok (.new 26, 3) := by decide +kernel
theorem dX9_init_41 : decode cX9_init 41 = .ok (.dup, 1) := by decide +kernel
theorem dX9_init_42 : decode cX9_init 42 = .ok (.invokespecial 28, 3) := by decide +kernel
theorem dX9_init_45 : decode cX9_init 45 = .ok (.putfield 29, 3) := by decide +kernel
theorem dX9_init_48 : decode cX9_init 48 = .ok (.aload_n 0, 1) := by decide +kernel
theorem dX9_init_49 : decode cX9_init 49 = .ok (.new 33, 3) := by decide +kernel
theorem dX9_init_52 : decode cX9_init 52 = .ok (.dup, 1) := by decide +kernel
theorem dX9_init_53 : decode cX9_init 53 = .ok (.invokespecial 35, 3) := by decide +kernel
theorem dX9_init_56 : decode cX9_init 56 = .ok (.putfield 36, 3) := by decide +kernel
theorem dX9_init_59 : decode cX9_init 59 = .ok (.aload_n 0, 1) := by decide +kernel
theorem dX9_init_60 : decode cX9_init 60 = .ok (.new 40, 3) := by decide +kernel
theorem dX9_init_63 : decode cX9_init 63 = .ok (.dup, 1) := by decide +kernel
theorem dX9_init_64 : decode cX9_init 64 = .ok (.invokespecial 42, 3) := by decide +kernel
theorem dX9_init_67 : decode cX9_init 67 = .ok (.putfield 43, 3) := by decide +kernel
theorem dX9_init_70 : decode cX9_init 70 = .ok (.aload_n 0, 1) := by decide +kernel
theorem dX9_init_71 : decode cX9_init 71 = .ok (.new 47, 3) := by decide +kernel
theorem dX9_init_74 : decode cX9_init 74 = .ok (.dup, 1) := by decide +kernel
theorem dX9_init_75 : decode cX9_init 75 = .ok (.invokespecial 49, 3) := by decide +kernel
theorem dX9_init_78 : decode cX9_init 78 = .ok (.putfield 50, 3) := by decide +kernel
theorem dX9_init_81 : decode cX9_init 81 = .ok (.aload_n 0, 1) := by decide +kernel
theorem dX9_init_82 : decode cX9_init 82 = .ok (.new 54, 3) := by decide +kernel
theorem dX9_init_85 : decode cX9_init 85 = .ok (.dup, 1) := by decide +kernel
theorem dX9_init_86 : decode cX9_init 86 = .ok (.invokespecial 56, 3) := by decide +kernel
theorem dX9_init_89 : decode cX9_init 89 = .ok (.putfield 57, 3) := by decide +kernel
theorem dX9_init_92 : decode cX9_init 92 = .ok (.aload_n 0, 1) := by decide +kernel
theorem dX9_init_93 : decode cX9_init 93 = .ok (.new 61, 3) := by decide +kernel
theorem dX9_init_96 : decode cX9_init 96 = .ok (.dup, 1) := by decide +kernel
theorem dX9_init_97 : decode cX9_init 97 = .ok (.invokespecial 63, 3) := by decide +kernel
theorem dX9_init_100 : decode cX9_init 100 = .ok (.putfield 64, 3) := by decide +kernel
theorem dX9_init_103 : decode cX9_init 103 = .ok (.return_, 1) := by decide +kernel
set_option maxHeartbeats 8000000 in
set_option maxRecDepth 100000 in
theorem yc_ClassOfMany {l : Launch} {D : va_G} {cA : Nat → ClassId} {h0 : Nat} : YCt l D cA yX9_init cX9_init 1 3 76 8123 h0 [(h0, .inr (8, [.null, .null, .null, .null, .null, .null, .null, .null, .null]))] (yp_ClassOfMany cA h0) := by
  refine yct (by decide +kernel) (by decide) (fun E hl hD hcA hN hIn hC hR => ?_)
  subst hl; subst hD; subst hcA
  refine yw_aload_n hC dX9_init_0 rfl 0 rfl ?_
  refine yw_obj hC (by decide) dX9_init_1 kw_1_25 kw_1_26 kw_1_27 ?_
  refine yw_aload_n hC dX9_init_4 rfl 0 rfl ?_
  refine yw_new hC (ci := 7) (N := 17) (T := TX8) (C := "ClassOfMany$Told") (fs := [.int 0, .int 0, .null, .null, .null, .null, .null, .null, .int 0, .int 0, .int 0, .int 0, .null, .null, .null, .int 0, .null]) rfl tyX8 tyX8_ok (fun j hj => by match j, hj with | 0, _ => rfl | 1, _ => rfl | 2, _ => rfl | 3, _ => rfl | 4, _ => rfl | 5, _ => rfl | 6, _ => rfl | 7, _ => rfl | 8, _ => rfl | 9, _ => rfl | 10, _ => rfl | 11, _ => rfl | 12, _ => rfl | 13, _ => rfl | 14, _ => rfl | 15, _ => rfl | 16, _ => rfl | k + 17, h => exact absurd h (by omega)) kw_1_28 kw_1_29 kw_1_2 (Nat.le_of_ble_eq_true rfl) (Nat.le_of_ble_eq_true rfl) dX9_init_5 (fun q1 => ?_)
  refine yw_dup hC dX9_init_8 rfl ?_
  refine yw_callN hC (yc_Told (h0 := q1)) kw_1_32 kw_1_2 (by decide +kernel) kw_1_31 rfl (by decide +kernel) (by decide) (by decide) (Nat.le_of_ble_eq_true rfl) dX9_init_9 (Nat.le_of_ble_eq_true rfl) (Nat.le_of_ble_eq_true rfl) (fun u2 => ?_)
  refine yw_put hC (ws' := ([(h0, .inr (8, [.ref q1, .null, .null, .null, .null, .null, .null, .null, .null]))] ++ yp_Told (ycA E) q1 u2)) (ty := .object "ClassOfMany$Told") zF_ClassOfMany_told.1 0 (yget yg1) (by decide +kernel) rfl rfl (Nat.le_of_ble_eq_true rfl) kw_2_168 dX9_init_12 (yset ys1 yl1) ?_
  refine yw_aload_n hC dX9_init_15 rfl 0 rfl ?_
  refine yw_new hC (ci := 6) (N := 12) (T := TX7) (C := "ClassOfMany$Standing") (fs := [.int 0, .int 0, .int 0, .int 0, .int 0, .int 0, .int 0, .int 0, .int 0, .int 0, .int 0, .null]) rfl tyX7 tyX7_ok (fun j hj => by match j, hj with | 0, _ => rfl | 1, _ => rfl | 2, _ => rfl | 3, _ => rfl | 4, _ => rfl | 5, _ => rfl | 6, _ => rfl | 7, _ => rfl | 8, _ => rfl | 9, _ => rfl | 10, _ => rfl | 11, _ => rfl | k + 12, h => exact absurd h (by omega)) kw_1_126 kw_1_127 kw_1_3 (Nat.le_of_ble_eq_true rfl) (Nat.le_of_ble_eq_true rfl) dX9_init_16 (fun q3 => ?_)
  refine yw_dup hC dX9_init_19 rfl ?_
  refine yw_callN hC (yc_Standing (h0 := q3)) kw_1_130 kw_1_3 (by decide +kernel) kw_1_129 rfl (by decide +kernel) (by decide) (by decide) (Nat.le_of_ble_eq_true rfl) dX9_init_20 (Nat.le_of_ble_eq_true rfl) (Nat.le_of_ble_eq_true rfl) (fun u4 => ?_)
  refine yw_putF hC (hIn rfl) (ws' := (([(h0, .inr (8, [.ref q1, .ref q3, .null, .null, .null, .null, .null, .null, .null]))] ++ yp_Told (ycA E) q1 u2) ++ yp_Standing (ycA E) q3 u4)) (ty := .object "ClassOfMany$Standing") zF_ClassOfMany_now.1 0 (yget (yget yg1)) (by decide +kernel) rfl rfl (Nat.le_of_ble_eq_true rfl) kw_2_169 dX9_init_23 (yset (yset ys1 yl1) (ylen yl1)) ?_
  refine yw_aload_n hC dX9_init_26 rfl 0 rfl ?_
  refine yw_new hC (ci := 6) (N := 12) (T := TX7) (C := "ClassOfMany$Standing") (fs := [.int 0, .int 0, .int 0, .int 0, .int 0, .int 0, .int 0, .int 0, .int 0, .int 0, .int 0, .null]) rfl tyX7 tyX7_ok (fun j hj => by match j, hj with | 0, _ => rfl | 1, _ => rfl | 2, _ => rfl | 3, _ => rfl | 4, _ => rfl | 5, _ => rfl | 6, _ => rfl | 7, _ => rfl | 8, _ => rfl | 9, _ => rfl | 10, _ => rfl | 11, _ => rfl | k + 12, h => exact absurd h (by omega)) kw_1_126 kw_1_127 kw_1_3 (Nat.le_of_ble_eq_true rfl) (Nat.le_of_ble_eq_true rfl) dX9_init_27 (fun q5 => ?_)
  refine yw_dup hC dX9_init_30 rfl ?_
  refine yw_callN hC (yc_Standing (h0 := q5)) kw_1_130 kw_1_3 (by decide +kernel) kw_1_129 rfl (by decide +kernel) (by decide) (by decide) (Nat.le_of_ble_eq_true rfl) dX9_init_31 (Nat.le_of_ble_eq_true rfl) (Nat.le_of_ble_eq_true rfl) (fun u6 => ?_)
  refine yw_putF hC (hIn rfl) (ws' := ((([(h0, .inr (8, [.ref q1, .ref q3, .ref q5, .null, .null, .null, .null, .null, .null]))] ++ yp_Told (ycA E) q1 u2) ++ yp_Standing (ycA E) q3 u4) ++ yp_Standing (ycA E) q5 u6)) (ty := .object "ClassOfMany$Standing") zF_ClassOfMany_were.1 0 (yget (yget (yget yg1))) (by decide +kernel) rfl rfl (Nat.le_of_ble_eq_true rfl) kw_2_170 dX9_init_34 (yset (yset (yset ys1 yl1) (ylen yl1)) (ylen (ylen yl1))) ?_
  refine yw_aload_n hC dX9_init_37 rfl 0 rfl ?_
  refine yw_new hC (ci := 0) (N := 3) (T := TX0) (C := "ClassOfMany$Journal") (fs := [.null, .int 0, .int 0]) rfl tyX0 tyX0_ok (fun j hj => by match j, hj with | 0, _ => rfl | 1, _ => rfl | 2, _ => rfl | k + 3, h => exact absurd h (by omega)) kw_1_197 kw_1_198 kw_1_4 (Nat.le_of_ble_eq_true rfl) (Nat.le_of_ble_eq_true rfl) dX9_init_38 (fun q7 => ?_)
  refine yw_dup hC dX9_init_41 rfl ?_
  refine yw_callI hC (yc_Journal (h0 := q7)) kw_1_201 kw_1_4 kw_1_199 kw_1_200 rfl (by decide +kernel) (by decide) (by decide) (Nat.le_of_ble_eq_true rfl) dX9_init_42 (Nat.le_of_ble_eq_true rfl) (Nat.le_of_ble_eq_true rfl) (fun u8 => ?_)
  refine yw_putF hC (hIn rfl) (ws' := (((([(h0, .inr (8, [.ref q1, .ref q3, .ref q5, .ref q7, .null, .null, .null, .null, .null]))] ++ yp_Told (ycA E) q1 u2) ++ yp_Standing (ycA E) q3 u4) ++ yp_Standing (ycA E) q5 u6) ++ yp_Journal (ycA E) q7 u8)) (ty := .object "ClassOfMany$Journal") zF_ClassOfMany_journal.1 0 (yget (yget (yget (yget yg1)))) (by decide +kernel) rfl rfl (Nat.le_of_ble_eq_true rfl) kw_2_171 dX9_init_45 (yset (yset (yset (yset ys1 yl1) (ylen yl1)) (ylen (ylen yl1))) (ylen (ylen (ylen yl1)))) ?_
  refine yw_aload_n hC dX9_init_48 rfl 0 rfl ?_
  refine yw_new hC (ci := 3) (N := 8) (T := TX4) (C := "ClassOfMany$Reader") (fs := [.null, .int 0, .int 0, .int 0, .int 0, .int 0, .null, .null]) rfl tyX4 tyX4_ok (fun j hj => by match j, hj with | 0, _ => rfl | 1, _ => rfl | 2, _ => rfl | 3, _ => rfl | 4, _ => rfl | 5, _ => rfl | 6, _ => rfl | 7, _ => rfl | k + 8, h => exact absurd h (by omega)) kw_1_217 kw_1_218 kw_1_5 (Nat.le_of_ble_eq_true rfl) (Nat.le_of_ble_eq_true rfl) dX9_init_49 (fun q9 => ?_)
  refine yw_dup hC dX9_init_52 rfl ?_
  refine yw_callN hC (yc_Reader (h0 := q9)) kw_1_221 kw_1_5 (by decide +kernel) kw_1_220 rfl (by decide +kernel) (by decide) (by decide) (Nat.le_of_ble_eq_true rfl) dX9_init_53 (Nat.le_of_ble_eq_true rfl) (Nat.le_of_ble_eq_true rfl) (fun u10 => ?_)
  refine yw_putF hC (hIn rfl) (ws' := ((((([(h0, .inr (8, [.ref q1, .ref q3, .ref q5, .ref q7, .ref q9, .null, .null, .null, .null]))] ++ yp_Told (ycA E) q1 u2) ++ yp_Standing (ycA E) q3 u4) ++ yp_Standing (ycA E) q5 u6) ++ yp_Journal (ycA E) q7 u8) ++ yp_Reader (ycA E) q9 u10)) (ty := .object "ClassOfMany$Reader") zF_ClassOfMany_reader.1 0 (yget (yget (yget (yget (yget yg1))))) (by decide +kernel) rfl rfl (Nat.le_of_ble_eq_true rfl) kw_2_172 dX9_init_56 (yset (yset (yset (yset (yset ys1 yl1) (ylen yl1)) (ylen (ylen yl1))) (ylen (ylen (ylen yl1)))) (ylen (ylen (ylen (ylen yl1))))) ?_
  refine yw_aload_n hC dX9_init_59 rfl 0 rfl ?_
  refine yw_new hC (ci := 5) (N := 9) (T := TX6) (C := "ClassOfMany$Splitter") (fs := [.int 0, .int 0, .int 0, .null, .null, .int 0, .null, .null, .null]) rfl tyX6 tyX6_ok (fun j hj => by match j, hj with | 0, _ => rfl | 1, _ => rfl | 2, _ => rfl | 3, _ => rfl | 4, _ => rfl | 5, _ => rfl | 6, _ => rfl | 7, _ => rfl | 8, _ => rfl | k + 9, h => exact absurd h (by omega)) kw_2_15 kw_2_16 kw_1_6 (Nat.le_of_ble_eq_true rfl) (Nat.le_of_ble_eq_true rfl) dX9_init_60 (fun q11 => ?_)
  refine yw_dup hC dX9_init_63 rfl ?_
  refine yw_callN hC (yc_Splitter (h0 := q11)) kw_2_19 kw_1_6 (by decide +kernel) kw_2_18 rfl (by decide +kernel) (by decide) (by decide) (Nat.le_of_ble_eq_true rfl) dX9_init_64 (Nat.le_of_ble_eq_true rfl) (Nat.le_of_ble_eq_true rfl) (fun u12 => ?_)
  refine yw_putF hC (hIn rfl) (ws' := (((((([(h0, .inr (8, [.ref q1, .ref q3, .ref q5, .ref q7, .ref q9, .ref q11, .null, .null, .null]))] ++ yp_Told (ycA E) q1 u2) ++ yp_Standing (ycA E) q3 u4) ++ yp_Standing (ycA E) q5 u6) ++ yp_Journal (ycA E) q7 u8) ++ yp_Reader (ycA E) q9 u10) ++ yp_Splitter (ycA E) q11 u12)) (ty := .object "ClassOfMany$Splitter") zF_ClassOfMany_splitter.1 0 (yget (yget (yget (yget (yget (yget yg1)))))) (by decide +kernel) rfl rfl (Nat.le_of_ble_eq_true rfl) kw_2_173 dX9_init_67 (yset (yset (yset (yset (yset (yset ys1 yl1) (ylen yl1)) (ylen (ylen yl1))) (ylen (ylen (ylen yl1)))) (ylen (ylen (ylen (ylen yl1))))) (ylen (ylen (ylen (ylen (ylen yl1)))))) ?_
  refine yw_aload_n hC dX9_init_70 rfl 0 rfl ?_
  refine yw_new hC (ci := 2) (N := 18) (T := TX3) (C := "ClassOfMany$Payer") (fs := [.null, .null, .null, .null, .null, .null, .null, .int 0, .int 0, .int 0, .int 0, .int 0, .int 0, .int 0, .int 0, .int 0, .int 0, .int 0]) rfl tyX3 tyX3_ok (fun j hj => by match j, hj with | 0, _ => rfl | 1, _ => rfl | 2, _ => rfl | 3, _ => rfl | 4, _ => rfl | 5, _ => rfl | 6, _ => rfl | 7, _ => rfl | 8, _ => rfl | 9, _ => rfl | 10, _ => rfl | 11, _ => rfl | 12, _ => rfl | 13, _ => rfl | 14, _ => rfl | 15, _ => rfl | 16, _ => rfl | 17, _ => rfl | k + 18, h => exact absurd h (by omega)) kw_2_52 kw_2_53 kw_1_7 (Nat.le_of_ble_eq_true rfl) (Nat.le_of_ble_eq_true rfl) dX9_init_71 (fun q13 => ?_)
  refine yw_dup hC dX9_init_74 rfl ?_
  refine yw_callN hC (yc_Payer (h0 := q13)) kw_2_56 kw_1_7 (by decide +kernel) kw_2_55 rfl (by decide +kernel) (by decide) (by decide) (Nat.le_of_ble_eq_true rfl) dX9_init_75 (Nat.le_of_ble_eq_true rfl) (Nat.le_of_ble_eq_true rfl) (fun u14 => ?_)
  refine yw_putF hC (hIn rfl) (ws' := ((((((([(h0, .inr (8, [.ref q1, .ref q3, .ref q5, .ref q7, .ref q9, .ref q11, .ref q13, .null, .null]))] ++ yp_Told (ycA E) q1 u2) ++ yp_Standing (ycA E) q3 u4) ++ yp_Standing (ycA E) q5 u6) ++ yp_Journal (ycA E) q7 u8) ++ yp_Reader (ycA E) q9 u10) ++ yp_Splitter (ycA E) q11 u12) ++ yp_Payer (ycA E) q13 u14)) (ty := .object "ClassOfMany$Payer") zF_ClassOfMany_payer.1 0 (yget (yget (yget (yget (yget (yget (yget yg1))))))) (by decide +kernel) rfl rfl (Nat.le_of_ble_eq_true rfl) kw_2_174 dX9_init_78 (yset (yset (yset (yset (yset (yset (yset ys1 yl1) (ylen yl1)) (ylen (ylen yl1))) (ylen (ylen (ylen yl1)))) (ylen (ylen (ylen (ylen yl1))))) (ylen (ylen (ylen (ylen (ylen yl1)))))) (ylen (ylen (ylen (ylen (ylen (ylen yl1))))))) ?_
  refine yw_aload_n hC dX9_init_81 rfl 0 rfl ?_
  refine yw_new hC (ci := 4) (N := 7) (T := TX5) (C := "ClassOfMany$Resting") (fs := [.int 0, .int 0, .int 0, .int 0, .null, .null, .null]) rfl tyX5 tyX5_ok (fun j hj => by match j, hj with | 0, _ => rfl | 1, _ => rfl | 2, _ => rfl | 3, _ => rfl | 4, _ => rfl | 5, _ => rfl | 6, _ => rfl | k + 7, h => exact absurd h (by omega)) kw_2_124 kw_2_125 kw_1_8 (Nat.le_of_ble_eq_true rfl) (Nat.le_of_ble_eq_true rfl) dX9_init_82 (fun q15 => ?_)
  refine yw_dup hC dX9_init_85 rfl ?_
  refine yw_callN hC (yc_Resting (h0 := q15)) kw_2_128 kw_1_8 (by decide +kernel) kw_2_127 rfl (by decide +kernel) (by decide) (by decide) (Nat.le_of_ble_eq_true rfl) dX9_init_86 (Nat.le_of_ble_eq_true rfl) (Nat.le_of_ble_eq_true rfl) (fun u16 => ?_)
  refine yw_putF hC (hIn rfl) (ws' := (((((((([(h0, .inr (8, [.ref q1, .ref q3, .ref q5, .ref q7, .ref q9, .ref q11, .ref q13, .ref q15, .null]))] ++ yp_Told (ycA E) q1 u2) ++ yp_Standing (ycA E) q3 u4) ++ yp_Standing (ycA E) q5 u6) ++ yp_Journal (ycA E) q7 u8) ++ yp_Reader (ycA E) q9 u10) ++ yp_Splitter (ycA E) q11 u12) ++ yp_Payer (ycA E) q13 u14) ++ yp_Resting (ycA E) q15 u16)) (ty := .object "ClassOfMany$Resting") zF_ClassOfMany_resting.1 0 (yget (yget (yget (yget (yget (yget (yget (yget yg1)))))))) (by decide +kernel) rfl rfl (Nat.le_of_ble_eq_true rfl) kw_2_175 dX9_init_89 (yset (yset (yset (yset (yset (yset (yset (yset ys1 yl1) (ylen yl1)) (ylen (ylen yl1))) (ylen (ylen (ylen yl1)))) (ylen (ylen (ylen (ylen yl1))))) (ylen (ylen (ylen (ylen (ylen yl1)))))) (ylen (ylen (ylen (ylen (ylen (ylen yl1))))))) (ylen (ylen (ylen (ylen (ylen (ylen (ylen yl1)))))))) ?_
  refine yw_aload_n hC dX9_init_92 rfl 0 rfl ?_
  refine yw_new hC (ci := 1) (N := 2) (T := TX2) (C := "ClassOfMany$Page") (fs := [.null, .int 0]) rfl tyX2 tyX2_ok (fun j hj => by match j, hj with | 0, _ => rfl | 1, _ => rfl | k + 2, h => exact absurd h (by omega)) kw_2_154 kw_2_155 kw_1_9 (Nat.le_of_ble_eq_true rfl) (Nat.le_of_ble_eq_true rfl) dX9_init_93 (fun q17 => ?_)
  refine yw_dup hC dX9_init_96 rfl ?_
  refine yw_callN hC (yc_Page (h0 := q17)) kw_2_158 kw_1_9 (by decide +kernel) kw_2_157 rfl (by decide +kernel) (by decide) (by decide) (Nat.le_of_ble_eq_true rfl) dX9_init_97 (Nat.le_of_ble_eq_true rfl) (Nat.le_of_ble_eq_true rfl) (fun u18 => ?_)
  refine yw_putF hC (hIn rfl) (ws' := ((((((((([(h0, .inr (8, [.ref q1, .ref q3, .ref q5, .ref q7, .ref q9, .ref q11, .ref q13, .ref q15, .ref q17]))] ++ yp_Told (ycA E) q1 u2) ++ yp_Standing (ycA E) q3 u4) ++ yp_Standing (ycA E) q5 u6) ++ yp_Journal (ycA E) q7 u8) ++ yp_Reader (ycA E) q9 u10) ++ yp_Splitter (ycA E) q11 u12) ++ yp_Payer (ycA E) q13 u14) ++ yp_Resting (ycA E) q15 u16) ++ yp_Page (ycA E) q17 u18)) (ty := .object "ClassOfMany$Page") zF_ClassOfMany_page.1 0 (yget (yget (yget (yget (yget (yget (yget (yget (yget yg1))))))))) (by decide +kernel) rfl rfl (Nat.le_of_ble_eq_true rfl) kw_2_176 dX9_init_100 (yset (yset (yset (yset (yset (yset (yset (yset (yset ys1 yl1) (ylen yl1)) (ylen (ylen yl1))) (ylen (ylen (ylen yl1)))) (ylen (ylen (ylen (ylen yl1))))) (ylen (ylen (ylen (ylen (ylen yl1)))))) (ylen (ylen (ylen (ylen (ylen (ylen yl1))))))) (ylen (ylen (ylen (ylen (ylen (ylen (ylen yl1)))))))) (ylen (ylen (ylen (ylen (ylen (ylen (ylen (ylen yl1))))))))) ?_
  exact yw_ret hC hR (q1, u2, q3, u4, q5, u6, q7, u8, q9, u10, q11, u12, q13, u14, q15, u16, q17, u18) rfl dX9_init_103
