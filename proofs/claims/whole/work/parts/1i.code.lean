/-! ClassOfManyModel.estimated(I)I -/
theorem dX10_estimated_0 : decode cX10_estimated 0 = .ok (.aload_n 0, 1) := by decide +kernel
theorem dX10_estimated_1 : decode cX10_estimated 1 = .ok (.getfield 7, 3) := by decide +kernel
theorem dX10_estimated_4 : decode cX10_estimated 4 = .ok (.iconst 0, 1) := by decide +kernel
theorem dX10_estimated_5 : decode cX10_estimated 5 = .ok (.iaload, 1) := by decide +kernel
theorem dX10_estimated_6 : decode cX10_estimated 6 = .ok (.aload_n 0, 1) := by decide +kernel
theorem dX10_estimated_7 : decode cX10_estimated 7 = .ok (.iload_n 1, 1) := by decide +kernel
theorem dX10_estimated_8 : decode cX10_estimated 8 = .ok (.invokevirtual 259, 3) := by decide +kernel
theorem dX10_estimated_11 : decode cX10_estimated 11 = .ok (.imul, 1) := by decide +kernel
theorem dX10_estimated_12 : decode cX10_estimated 12 = .ok (.iload_n 1, 1) := by decide +kernel
theorem dX10_estimated_13 : decode cX10_estimated 13 = .ok (.invokestatic 262, 3) := by decide +kernel
theorem dX10_estimated_16 : decode cX10_estimated 16 = .ok (.idiv, 1) := by decide +kernel
theorem dX10_estimated_17 : decode cX10_estimated 17 = .ok (.ireturn, 1) := by decide +kernel
theorem zm_X10_estimated : ZMv "ClassOfManyModel" yX10_estimated cX10_estimated 2 (some .int) 1 := ⟨kw_8_55, kw_8_54, kp_112, kw_1_10, by decide +kernel, by decide⟩
def zf_X10_estimated (n : Nat) (a1 : Int32) (M : ZMem) : Option (Int32) :=
  zrd M 78 73 (0 : Int32) (fun v25 => zb1 (zf_X10_claims n a1 M) (fun v26 => zb1 (zf_X10_bits n a1) (fun v27 => zdiv (v25 * v26) v27 (fun v28 => some v28))))
set_option maxHeartbeats 4000000 in
set_option maxRecDepth 100000 in
theorem zc_X10_estimated {l : Launch} {D : va_G} {ad : Nat → Nat} {cA : Nat → ClassId} {n : Nat} {a1 : Int32} {M : ZMem} {r : Int32} (hf : zf_X10_estimated n a1 M = some r) : ZCt l D ad cA yX10_estimated cX10_estimated 2 (some .int) 4 [.ref (ad 77), .int a1] M (some (.int r)) M := by
  refine zct (by decide +kernel) (Nat.le_of_ble_eq_true rfl) (lv := [(0, .ref (ad 77)), (1, .int a1)]) rfl (fun E hl hD had hcA hN hC hR => ?_)
  subst hl; subst hD; subst had; subst hcA
  unfold zf_X10_estimated at hf
  refine zw_aload_n hC dX10_estimated_0 rfl 0 rfl ?_
  refine zw_getr (k' := 78) hC zF_Model_now zk_77 rfl dX10_estimated_1 kw_5_227 ?_
  refine zw_iconst hC (v := (0 : Int32)) dX10_estimated_4 (by decide) ?_
  refine zw_iald hC hf zk_78 dX10_estimated_5 (fun v25 hf => ?_)
  refine zw_aload_n hC dX10_estimated_6 rfl 0 rfl ?_
  refine zw_iload_n hC dX10_estimated_7 rfl 1 rfl ?_
  obtain ⟨v26, hc26, hf⟩ := zb1_some hf
  refine zw_cV hC [.int a1] [.int v25] (st1 := [.int v26, .int v25]) zm_X10_claims (zc_X10_claims hc26) zk_77 rfl kw_7_48 dX10_estimated_8 rfl (by decide) (Nat.le_of_ble_eq_true rfl) rfl rfl ?_
  refine zw_imul hC dX10_estimated_11 ?_
  refine zw_iload_n hC dX10_estimated_12 rfl 1 rfl ?_
  obtain ⟨v27, hc27, hf⟩ := zb1_some hf
  refine zw_cS hC [.int a1] [.int (v25 * v26)] (st1 := [.int v27, .int (v25 * v26)]) zm_X10_bits (zc_X10_bits hc27) kw_7_21 dX10_estimated_13 rfl (by decide) (Nat.le_of_ble_eq_true rfl) rfl rfl ?_
  refine zw_idiv hC hf dX10_estimated_16 (fun v28 hf => ?_)
  have h1 := Option.some.inj hf
  subst h1
  exact zw_iret hC hR dX10_estimated_17
/-! ClassOfManyModel.offBy(I)I -/
theorem dX10_offBy_0 : decode cX10_offBy 0 = .ok (.aload_n 0, 1) := by decide +kernel
theorem dX10_offBy_1 : decode cX10_offBy 1 = .ok (.iload_n 1, 1) := by decide +kernel
theorem dX10_offBy_2 : decode cX10_offBy 2 = .ok (.invokevirtual 339, 3) := by decide +kernel
theorem dX10_offBy_5 : decode cX10_offBy 5 = .ok (.aload_n 0, 1) := by decide +kernel
theorem dX10_offBy_6 : decode cX10_offBy 6 = .ok (.aload_n 0, 1) := by decide +kernel
theorem dX10_offBy_7 : decode cX10_offBy 7 = .ok (.invokevirtual 223, 3) := by decide +kernel
theorem dX10_offBy_10 : decode cX10_offBy 10 = .ok (.invokevirtual 259, 3) := by decide +kernel
theorem dX10_offBy_13 : decode cX10_offBy 13 = .ok (.isub, 1) := by decide +kernel
theorem dX10_offBy_14 : decode cX10_offBy 14 = .ok (.istore_n 2, 1) := by decide +kernel
theorem dX10_offBy_15 : decode cX10_offBy 15 = .ok (.iload_n 2, 1) := by decide +kernel
theorem dX10_offBy_16 : decode cX10_offBy 16 = .ok (.ifCond .ge 8, 3) := by decide +kernel
theorem dX10_offBy_19 : decode cX10_offBy 19 = .ok (.iload_n 2, 1) := by decide +kernel
theorem dX10_offBy_20 : decode cX10_offBy 20 = .ok (.ineg, 1) := by decide +kernel
theorem dX10_offBy_21 : decode cX10_offBy 21 = .ok (.goto 4, 3) := by decide +kernel
theorem dX10_offBy_24 : decode cX10_offBy 24 = .ok (.iload_n 2, 1) := by decide +kernel
theorem dX10_offBy_25 : decode cX10_offBy 25 = .ok (.ireturn, 1) := by decide +kernel
theorem zm_X10_offBy : ZMv "ClassOfManyModel" yX10_offBy cX10_offBy 3 (some .int) 1 := ⟨kw_8_63, kw_8_62, kp_113, kw_1_10, by decide +kernel, by decide⟩
def zf_X10_offBy_j25 (v27 : Int32) : Option (Int32) :=
  some v27
def zf_X10_offBy (n : Nat) (a1 : Int32) (M : ZMem) : Option (Int32) :=
  zb1 (zf_X10_estimated n a1 M) (fun v24 => zb1 (zf_X10_all M) (fun v25 => zb1 (zf_X10_claims n v25 M) (fun v26 => (if 0 ≤ (v24 - v26) then (zf_X10_offBy_j25 (v24 - v26)) else (zf_X10_offBy_j25 (-(v24 - v26)))))))
set_option maxHeartbeats 4000000 in
set_option maxRecDepth 100000 in
theorem zc_X10_offBy {l : Launch} {D : va_G} {ad : Nat → Nat} {cA : Nat → ClassId} {n : Nat} {a1 : Int32} {M : ZMem} {r : Int32} (hf : zf_X10_offBy n a1 M = some r) : ZCt l D ad cA yX10_offBy cX10_offBy 3 (some .int) 5 [.ref (ad 77), .int a1] M (some (.int r)) M := by
  refine zct (by decide +kernel) (Nat.le_of_ble_eq_true rfl) (lv := [(0, .ref (ad 77)), (1, .int a1)]) rfl (fun E hl hD had hcA hN hC hR => ?_)
  subst hl; subst hD; subst had; subst hcA
  unfold zf_X10_offBy at hf
  refine zw_aload_n hC dX10_offBy_0 rfl 0 rfl ?_
  refine zw_iload_n hC dX10_offBy_1 rfl 1 rfl ?_
  obtain ⟨v24, hc24, hf⟩ := zb1_some hf
  refine zw_cV hC [.int a1] [] (st1 := [.int v24]) zm_X10_estimated (zc_X10_estimated hc24) zk_77 rfl kw_8_52 dX10_offBy_2 rfl (by decide) (Nat.le_of_ble_eq_true rfl) rfl rfl ?_
  refine zw_aload_n hC dX10_offBy_5 rfl 0 rfl ?_
  refine zw_aload_n hC dX10_offBy_6 rfl 0 rfl ?_
  obtain ⟨v25, hc25, hf⟩ := zb1_some hf
  refine zw_cV hC [] [.ref (zad E 77), .int v24] (st1 := [.int v25, .ref (zad E 77), .int v24]) zm_X10_all (zc_X10_all hc25) zk_77 rfl kw_7_44 dX10_offBy_7 rfl (by decide) (Nat.le_of_ble_eq_true rfl) rfl rfl ?_
  obtain ⟨v26, hc26, hf⟩ := zb1_some hf
  refine zw_cV hC [.int v25] [.int v24] (st1 := [.int v26, .int v24]) zm_X10_claims (zc_X10_claims hc26) zk_77 rfl kw_7_48 dX10_offBy_10 rfl (by decide) (Nat.le_of_ble_eq_true rfl) rfl rfl ?_
  refine zw_isub hC dX10_offBy_13 ?_
  refine zw_istore_n hC (lv' := [(2, .int (v24 - v26)), (0, .ref (zad E 77)), (1, .int a1)]) dX10_offBy_14 rfl hN (by decide) rfl ?_
  refine zw_iload_n hC dX10_offBy_15 rfl 0 rfl ?_
  have hj25 : ∀ (v27 : Int32), zf_X10_offBy_j25 v27 = some r → ZW E 25 [] [.int v27] M := by
    intro v27 hf
    unfold zf_X10_offBy_j25 at hf
    have h1 := Option.some.inj hf
    subst h1
    exact zw_iret hC hR dX10_offBy_25
  refine zw_if_ge hC 24 hf dX10_offBy_16 (by decide) (fun hf => ?_) (fun hf => ?_)
  · refine zw_iload_n hC dX10_offBy_24 rfl 0 rfl ?_
    exact zw_sub [] rfl (hj25 (v24 - v26) hf)
  · refine zw_iload_n hC dX10_offBy_19 rfl 0 rfl ?_
    refine zw_ineg hC dX10_offBy_20 ?_
    refine zw_goto hC 25 dX10_offBy_21 (by decide) ?_
    exact zw_sub [] rfl (hj25 (-(v24 - v26)) hf)
/-! ClassOfManyModel.estimate(I)I -/
theorem dX10_estimate_0 : decode cX10_estimate 0 = .ok (.aload_n 0, 1) := by decide +kernel
theorem dX10_estimate_1 : decode cX10_estimate 1 = .ok (.iload_n 1, 1) := by decide +kernel
theorem dX10_estimate_2 : decode cX10_estimate 2 = .ok (.invokevirtual 335, 3) := by decide +kernel
theorem dX10_estimate_5 : decode cX10_estimate 5 = .ok (.ifCond .eq 15, 3) := by decide +kernel
theorem dX10_estimate_8 : decode cX10_estimate 8 = .ok (.iload_n 1, 1) := by decide +kernel
theorem dX10_estimate_9 : decode cX10_estimate 9 = .ok (.ifCond .eq 11, 3) := by decide +kernel
theorem dX10_estimate_12 : decode cX10_estimate 12 = .ok (.aload_n 0, 1) := by decide +kernel
theorem dX10_estimate_13 : decode cX10_estimate 13 = .ok (.iload_n 1, 1) := by decide +kernel
theorem dX10_estimate_14 : decode cX10_estimate 14 = .ok (.invokevirtual 339, 3) := by decide +kernel
theorem dX10_estimate_17 : decode cX10_estimate 17 = .ok (.goto 4, 3) := by decide +kernel
theorem dX10_estimate_20 : decode cX10_estimate 20 = .ok (.iconst (-1), 1) := by decide +kernel
theorem dX10_estimate_21 : decode cX10_estimate 21 = .ok (.ireturn, 1) := by decide +kernel
theorem zm_X10_estimate : ZMv "ClassOfManyModel" yX10_estimate cX10_estimate 2 (some .int) 1 := ⟨kw_8_51, kw_8_49, kw_8_50, kw_1_10, by decide +kernel, by decide⟩
def zf_X10_estimate_j21 (v24 : Int32) : Option (Int32) :=
  some v24
def zf_X10_estimate_j20 : Option (Int32) :=
  (zf_X10_estimate_j21 (-1 : Int32))
def zf_X10_estimate (n : Nat) (a1 : Int32) (M : ZMem) : Option (Int32) :=
  zb1 (zf_X10_isSet a1 M) (fun v23 => (if v23 = 0 then (zf_X10_estimate_j20) else (if a1 = 0 then (zf_X10_estimate_j20) else zb1 (zf_X10_estimated n a1 M) (fun v25 => (zf_X10_estimate_j21 v25)))))
set_option maxHeartbeats 4000000 in
set_option maxRecDepth 100000 in
theorem zc_X10_estimate {l : Launch} {D : va_G} {ad : Nat → Nat} {cA : Nat → ClassId} {n : Nat} {a1 : Int32} {M : ZMem} {r : Int32} (hf : zf_X10_estimate n a1 M = some r) : ZCt l D ad cA yX10_estimate cX10_estimate 2 (some .int) 5 [.ref (ad 77), .int a1] M (some (.int r)) M := by
  refine zct (by decide +kernel) (Nat.le_of_ble_eq_true rfl) (lv := [(0, .ref (ad 77)), (1, .int a1)]) rfl (fun E hl hD had hcA hN hC hR => ?_)
  subst hl; subst hD; subst had; subst hcA
  unfold zf_X10_estimate at hf
  refine zw_aload_n hC dX10_estimate_0 rfl 0 rfl ?_
  refine zw_iload_n hC dX10_estimate_1 rfl 1 rfl ?_
  obtain ⟨v23, hc23, hf⟩ := zb1_some hf
  refine zw_cV hC [.int a1] [] (st1 := [.int v23]) zm_X10_isSet (zc_X10_isSet hc23) zk_77 rfl kw_8_31 dX10_estimate_2 rfl (by decide) (Nat.le_of_ble_eq_true rfl) rfl rfl ?_
  have hj21 : ∀ (v24 : Int32), zf_X10_estimate_j21 v24 = some r → ZW E 21 [] [.int v24] M := by
    intro v24 hf
    unfold zf_X10_estimate_j21 at hf
    have h1 := Option.some.inj hf
    subst h1
    exact zw_iret hC hR dX10_estimate_21
  have hj20 : zf_X10_estimate_j20 = some r → ZW E 20 [] [] M := by
    intro  hf
    unfold zf_X10_estimate_j20 at hf
    refine zw_iconst hC (v := (-1 : Int32)) dX10_estimate_20 (by decide) ?_
    exact hj21 (-1 : Int32) hf
  refine zw_if_eq hC 20 hf dX10_estimate_5 (by decide) (fun hf => ?_) (fun hf => ?_)
  · exact zw_sub [] rfl (hj20 hf)
  · refine zw_iload_n hC dX10_estimate_8 rfl 1 rfl ?_
    refine zw_if_eq hC 20 hf dX10_estimate_9 (by decide) (fun hf => ?_) (fun hf => ?_)
    · exact zw_sub [] rfl (hj20 hf)
    · refine zw_aload_n hC dX10_estimate_12 rfl 0 rfl ?_
      refine zw_iload_n hC dX10_estimate_13 rfl 1 rfl ?_
      obtain ⟨v25, hc25, hf⟩ := zb1_some hf
      refine zw_cV hC [.int a1] [] (st1 := [.int v25]) zm_X10_estimated (zc_X10_estimated hc25) zk_77 rfl kw_8_52 dX10_estimate_14 rfl (by decide) (Nat.le_of_ble_eq_true rfl) rfl rfl ?_
      refine zw_goto hC 21 dX10_estimate_17 (by decide) ?_
      exact zw_sub [] rfl (hj21 v25 hf)
/-! ClassOfManyModel.nearest(II)I -/
theorem dX10_nearest_0 : decode cX10_nearest 0 = .ok (.iload_n 1, 1) := by decide +kernel
theorem dX10_nearest_1 : decode cX10_nearest 1 = .ok (.iconst 1, 1) := by decide +kernel
theorem dX10_nearest_2 : decode cX10_nearest 2 = .ok (.aload_n 0, 1) := by decide +kernel
theorem dX10_nearest_3 : decode cX10_nearest 3 = .ok (.getfield 7, 3) := by decide +kernel
theorem dX10_nearest_6 : decode cX10_nearest 6 = .ok (.iconst 0, 1) := by decide +kernel
theorem dX10_nearest_7 : decode cX10_nearest 7 = .ok (.iaload, 1) := by decide +kernel
theorem dX10_nearest_8 : decode cX10_nearest 8 = .ok (.invokestatic 65, 3) := by decide +kernel
theorem dX10_nearest_11 : decode cX10_nearest 11 = .ok (.ifCond .eq 12, 3) := by decide +kernel
theorem dX10_nearest_14 : decode cX10_nearest 14 = .ok (.iload_n 2, 1) := by decide +kernel
theorem dX10_nearest_15 : decode cX10_nearest 15 = .ok (.iconst 0, 1) := by decide +kernel
theorem dX10_nearest_16 : decode cX10_nearest 16 = .ok (.iconst 1, 1) := by decide +kernel
theorem dX10_nearest_17 : decode cX10_nearest 17 = .ok (.invokestatic 65, 3) := by decide +kernel
theorem dX10_nearest_20 : decode cX10_nearest 20 = .ok (.ifCond .ne 5, 3) := by decide +kernel
theorem dX10_nearest_23 : decode cX10_nearest 23 = .ok (.iconst (-1), 1) := by decide +kernel
theorem dX10_nearest_24 : decode cX10_nearest 24 = .ok (.ireturn, 1) := by decide +kernel
theorem dX10_nearest_25 : decode cX10_nearest 25 = .ok (.iconst (-1), 1) := by decide +kernel
theorem dX10_nearest_26 : decode cX10_nearest 26 = .ok (.istore_n 3, 1) := by decide +kernel
theorem dX10_nearest_27 : decode cX10_nearest 27 = .ok (.iconst 1, 1) := by decide +kernel
theorem dX10_nearest_28 : decode cX10_nearest 28 = .ok (.istore 4, 2) := by decide +kernel
theorem dX10_nearest_30 : decode cX10_nearest 30 = .ok (.iload 4, 2) := by decide +kernel
theorem dX10_nearest_32 : decode cX10_nearest 32 = .ok (.aload_n 0, 1) := by decide +kernel
theorem dX10_nearest_33 : decode cX10_nearest 33 = .ok (.invokevirtual 223, 3) := by decide +kernel
theorem dX10_nearest_36 : decode cX10_nearest 36 = .ok (.if_icmp .gt 44, 3) := by decide +kernel
theorem dX10_nearest_39 : decode cX10_nearest 39 = .ok (.iload 4, 2) := by decide +kernel
theorem dX10_nearest_41 : decode cX10_nearest 41 = .ok (.invokestatic 262, 3) := by decide +kernel
theorem dX10_nearest_44 : decode cX10_nearest 44 = .ok (.iload_n 1, 1) := by decide +kernel
theorem dX10_nearest_45 : decode cX10_nearest 45 = .ok (.if_icmp .ne 27, 3) := by decide +kernel
theorem dX10_nearest_48 : decode cX10_nearest 48 = .ok (.iload_n 3, 1) := by decide +kernel
theorem dX10_nearest_49 : decode cX10_nearest 49 = .ok (.iconst (-1), 1) := by decide +kernel
theorem dX10_nearest_50 : decode cX10_nearest 50 = .ok (.if_icmp .eq 17, 3) := by decide +kernel
theorem dX10_nearest_53 : decode cX10_nearest 53 = .ok (.aload_n 0, 1) := by decide +kernel
theorem dX10_nearest_54 : decode cX10_nearest 54 = .ok (.iload 4, 2) := by decide +kernel
theorem dX10_nearest_56 : decode cX10_nearest 56 = .ok (.invokevirtual 342, 3) := by decide +kernel
theorem dX10_nearest_59 : decode cX10_nearest 59 = .ok (.aload_n 0, 1) := by decide +kernel
theorem dX10_nearest_60 : decode cX10_nearest 60 = .ok (.iload_n 3, 1) := by decide +kernel
theorem dX10_nearest_61 : decode cX10_nearest 61 = .ok (.invokevirtual 342, 3) := by decide +kernel
theorem dX10_nearest_64 : decode cX10_nearest 64 = .ok (.if_icmp .ge 8, 3) := by decide +kernel
theorem dX10_nearest_67 : decode cX10_nearest 67 = .ok (.iload 4, 2) := by decide +kernel
theorem dX10_nearest_69 : decode cX10_nearest 69 = .ok (.goto 4, 3) := by decide +kernel
theorem dX10_nearest_72 : decode cX10_nearest 72 = .ok (.iload_n 3, 1) := by decide +kernel
theorem dX10_nearest_73 : decode cX10_nearest 73 = .ok (.istore_n 3, 1) := by decide +kernel
theorem dX10_nearest_74 : decode cX10_nearest 74 = .ok (.iinc 4 1, 3) := by decide +kernel
theorem dX10_nearest_77 : decode cX10_nearest 77 = .ok (.goto (-47), 3) := by decide +kernel
theorem dX10_nearest_80 : decode cX10_nearest 80 = .ok (.iload_n 2, 1) := by decide +kernel
theorem dX10_nearest_81 : decode cX10_nearest 81 = .ok (.ifCond .ne 11, 3) := by decide +kernel
theorem dX10_nearest_84 : decode cX10_nearest 84 = .ok (.aload_n 0, 1) := by decide +kernel
theorem dX10_nearest_85 : decode cX10_nearest 85 = .ok (.iload_n 3, 1) := by decide +kernel
theorem dX10_nearest_86 : decode cX10_nearest 86 = .ok (.invokevirtual 342, 3) := by decide +kernel
theorem dX10_nearest_89 : decode cX10_nearest 89 = .ok (.goto 4, 3) := by decide +kernel
theorem dX10_nearest_92 : decode cX10_nearest 92 = .ok (.iload_n 3, 1) := by decide +kernel
theorem dX10_nearest_93 : decode cX10_nearest 93 = .ok (.ireturn, 1) := by decide +kernel
theorem zm_X10_nearest : ZMv "ClassOfManyModel" yX10_nearest cX10_nearest 5 (some .int) 2 := ⟨kw_8_59, kw_8_57, kw_8_58, kw_1_10, by decide +kernel, by decide⟩
def zf_X10_nearest_j23 : Option (Int32) :=
  some (-1 : Int32)
def zf_X10_nearest_j73 (R30 : Int32 → Int32 → Option (Int32)) (v33 : Int32) (v37 : Int32) : Option (Int32) :=
  (R30 v37 (v33 + (1 : Int32)))
def zf_X10_nearest_j72 (R30 : Int32 → Int32 → Option (Int32)) (v33 : Int32) (v32 : Int32) : Option (Int32) :=
  (zf_X10_nearest_j73 R30 v33 v32)
def zf_X10_nearest_j67 (R30 : Int32 → Int32 → Option (Int32)) (v33 : Int32) : Option (Int32) :=
  (zf_X10_nearest_j73 R30 v33 v33)
def zf_X10_nearest_L30 (M : ZMem) (n : Nat) (a1 : Int32) (K80 : Int32 → Option (Int32)) : Nat → Int32 → Int32 → Option (Int32)
  | 0, _, _ => none
  | n30 + 1, v32, v33 =>
  zb1 (zf_X10_all M) (fun v35 => (if v35 < v33 then (K80 v32) else zb1 (zf_X10_bits n v33) (fun v36 => (if v36 = a1 then (if v32 = (-1 : Int32) then (zf_X10_nearest_j67 (fun x0 x1 => zf_X10_nearest_L30 M n a1 K80 n30 x0 x1) v33) else zb1 (zf_X10_offBy n v33 M) (fun v38 => zb1 (zf_X10_offBy n v32 M) (fun v39 => (if v39 ≤ v38 then (zf_X10_nearest_j72 (fun x0 x1 => zf_X10_nearest_L30 M n a1 K80 n30 x0 x1) v33 v32) else (zf_X10_nearest_j67 (fun x0 x1 => zf_X10_nearest_L30 M n a1 K80 n30 x0 x1) v33))))) else (zf_X10_nearest_j72 (fun x0 x1 => zf_X10_nearest_L30 M n a1 K80 n30 x0 x1) v33 v32)))))
def zf_X10_nearest_j93 (v41 : Int32) : Option (Int32) :=
  some v41
def zf_X10_nearest (n : Nat) (a1 : Int32) (a2 : Int32) (M : ZMem) : Option (Int32) :=
  zrd M 78 73 (0 : Int32) (fun v29 => zb1 (zf_X10_isIn a1 (1 : Int32) v29) (fun v30 => (if v30 = 0 then (zf_X10_nearest_j23) else zb1 (zf_X10_isIn a2 (0 : Int32) (1 : Int32)) (fun v31 => (if v31 = 0 then (zf_X10_nearest_j23) else (zf_X10_nearest_L30 M n a1 (fun v40 => (if a2 = 0 then zb1 (zf_X10_offBy n v40 M) (fun v42 => (zf_X10_nearest_j93 v42)) else (zf_X10_nearest_j93 v40))) n (-1 : Int32) (1 : Int32)))))))
set_option maxHeartbeats 4000000 in
set_option maxRecDepth 100000 in
theorem zc_X10_nearest {l : Launch} {D : va_G} {ad : Nat → Nat} {cA : Nat → ClassId} {n : Nat} {a1 : Int32} {a2 : Int32} {M : ZMem} {r : Int32} (hf : zf_X10_nearest n a1 a2 M = some r) : ZCt l D ad cA yX10_nearest cX10_nearest 5 (some .int) 6 [.ref (ad 77), .int a1, .int a2] M (some (.int r)) M := by
  refine zct (by decide +kernel) (Nat.le_of_ble_eq_true rfl) (lv := [(0, .ref (ad 77)), (1, .int a1), (2, .int a2)]) rfl (fun E hl hD had hcA hN hC hR => ?_)
  subst hl; subst hD; subst had; subst hcA
  unfold zf_X10_nearest at hf
  refine zw_iload_n hC dX10_nearest_0 rfl 1 rfl ?_
  refine zw_iconst hC (v := (1 : Int32)) dX10_nearest_1 (by decide) ?_
  refine zw_aload_n hC dX10_nearest_2 rfl 0 rfl ?_
  refine zw_getr (k' := 78) hC zF_Model_now zk_77 rfl dX10_nearest_3 kw_5_227 ?_
  refine zw_iconst hC (v := (0 : Int32)) dX10_nearest_6 (by decide) ?_
  refine zw_iald hC hf zk_78 dX10_nearest_7 (fun v29 hf => ?_)
  obtain ⟨v30, hc30, hf⟩ := zb1_some hf
  refine zw_cS hC [.int a1, .int (1 : Int32), .int v29] [] (st1 := [.int v30]) zm_X10_isIn (zc_X10_isIn hc30) kw_6_106 dX10_nearest_8 rfl (by decide) (Nat.le_of_ble_eq_true rfl) rfl rfl ?_
  have hj23 : zf_X10_nearest_j23 = some r → ZW E 23 [] [] M := by
    intro  hf
    unfold zf_X10_nearest_j23 at hf
    refine zw_iconst hC (v := (-1 : Int32)) dX10_nearest_23 (by decide) ?_
    have h1 := Option.some.inj hf
    subst h1
    exact zw_iret hC hR dX10_nearest_24
  refine zw_if_eq hC 23 hf dX10_nearest_11 (by decide) (fun hf => ?_) (fun hf => ?_)
  · exact zw_sub [] rfl (hj23 hf)
  · refine zw_iload_n hC dX10_nearest_14 rfl 2 rfl ?_
    refine zw_iconst hC (v := (0 : Int32)) dX10_nearest_15 (by decide) ?_
    refine zw_iconst hC (v := (1 : Int32)) dX10_nearest_16 (by decide) ?_
    obtain ⟨v31, hc31, hf⟩ := zb1_some hf
    refine zw_cS hC [.int a2, .int (0 : Int32), .int (1 : Int32)] [] (st1 := [.int v31]) zm_X10_isIn (zc_X10_isIn hc31) kw_6_106 dX10_nearest_17 rfl (by decide) (Nat.le_of_ble_eq_true rfl) rfl rfl ?_
    refine zw_if_ne hC 25 hf dX10_nearest_20 (by decide) (fun hf => ?_) (fun hf => ?_)
    · refine zw_iconst hC (v := (-1 : Int32)) dX10_nearest_25 (by decide) ?_
      refine zw_istore_n hC (lv' := [(3, .int (-1 : Int32)), (0, .ref (zad E 77)), (1, .int a1), (2, .int a2)]) dX10_nearest_26 rfl hN (by decide) rfl ?_
      refine zw_iconst hC (v := (1 : Int32)) dX10_nearest_27 (by decide) ?_
      refine zw_istore hC (lv' := [(4, .int (1 : Int32)), (3, .int (-1 : Int32)), (0, .ref (zad E 77)), (1, .int a1), (2, .int a2)]) dX10_nearest_28 hN (by decide) rfl ?_
      have hL30 : ∀ (K80 : Int32 → Option (Int32)), (∀ (v34 : Int32), K80 v34 = some r → ZW E 80 [(0, .ref (zad E 77)), (2, .int a2), (3, .int v34)] [] M) → ∀ (n30 : Nat), ∀ (v32 : Int32), ∀ (v33 : Int32), zf_X10_nearest_L30 M n a1 K80 n30 v32 v33 = some r → ZW E 30 [(0, .ref (zad E 77)), (1, .int a1), (2, .int a2), (3, .int v32), (4, .int v33)] [] M := by
        intro K80 hK80
        intro n30
        induction n30 with
        | zero => intro v32 v33 hf; rw [zf_X10_nearest_L30] at hf; cases hf
        | succ n30 ih30 =>
          intro v32 v33 hf
          rw [zf_X10_nearest_L30] at hf
          refine zw_iload hC dX10_nearest_30 4 rfl ?_
          refine zw_aload_n hC dX10_nearest_32 rfl 0 rfl ?_
          obtain ⟨v35, hc35, hf⟩ := zb1_some hf
          refine zw_cV hC [] [.int v33] (st1 := [.int v35, .int v33]) zm_X10_all (zc_X10_all hc35) zk_77 rfl kw_7_44 dX10_nearest_33 rfl (by decide) (Nat.le_of_ble_eq_true rfl) rfl rfl ?_
          refine zw_icmp_gt hC 80 hf dX10_nearest_36 (by decide) (fun hf => ?_) (fun hf => ?_)
          · exact zw_sub [0, 2, 3] rfl (hK80 v32 hf)
          · refine zw_iload hC dX10_nearest_39 4 rfl ?_
            obtain ⟨v36, hc36, hf⟩ := zb1_some hf
            refine zw_cS hC [.int v33] [] (st1 := [.int v36]) zm_X10_bits (zc_X10_bits hc36) kw_7_21 dX10_nearest_41 rfl (by decide) (Nat.le_of_ble_eq_true rfl) rfl rfl ?_
            refine zw_iload_n hC dX10_nearest_44 rfl 1 rfl ?_
            have hj73 : ∀ (v37 : Int32), zf_X10_nearest_j73 (fun x0 x1 => zf_X10_nearest_L30 M n a1 K80 n30 x0 x1) v33 v37 = some r → ZW E 73 [(0, .ref (zad E 77)), (1, .int a1), (2, .int a2), (4, .int v33)] [.int v37] M := by
              intro v37 hf
              unfold zf_X10_nearest_j73 at hf
              refine zw_istore_n hC (lv' := [(3, .int v37), (0, .ref (zad E 77)), (1, .int a1), (2, .int a2), (4, .int v33)]) dX10_nearest_73 rfl hN (by decide) rfl ?_
              refine zw_iinc hC (v := (1 : Int32)) (lv' := [(4, .int (v33 + (1 : Int32))), (3, .int v37), (0, .ref (zad E 77)), (1, .int a1), (2, .int a2)]) dX10_nearest_74 4 rfl (by decide) hN (by decide) rfl ?_
              refine zw_goto hC 30 dX10_nearest_77 (by decide) ?_
              exact zw_sub [2, 3, 4, 1, 0] rfl (ih30 v37 (v33 + (1 : Int32)) hf)
            have hj72 : zf_X10_nearest_j72 (fun x0 x1 => zf_X10_nearest_L30 M n a1 K80 n30 x0 x1) v33 v32 = some r → ZW E 72 [(0, .ref (zad E 77)), (1, .int a1), (2, .int a2), (3, .int v32), (4, .int v33)] [] M := by
              intro  hf
              unfold zf_X10_nearest_j72 at hf
              refine zw_iload_n hC dX10_nearest_72 rfl 3 rfl ?_
              exact zw_sub [0, 1, 2, 4] rfl (hj73 v32 hf)
            refine zw_icmp_ne hC 72 hf dX10_nearest_45 (by decide) (fun hf => ?_) (fun hf => ?_)
            · exact hj72 hf
            · refine zw_iload_n hC dX10_nearest_48 rfl 3 rfl ?_
              refine zw_iconst hC (v := (-1 : Int32)) dX10_nearest_49 (by decide) ?_
              have hj67 : zf_X10_nearest_j67 (fun x0 x1 => zf_X10_nearest_L30 M n a1 K80 n30 x0 x1) v33 = some r → ZW E 67 [(0, .ref (zad E 77)), (1, .int a1), (2, .int a2), (4, .int v33)] [] M := by
                intro  hf
                unfold zf_X10_nearest_j67 at hf
                refine zw_iload hC dX10_nearest_67 3 rfl ?_
                refine zw_goto hC 73 dX10_nearest_69 (by decide) ?_
                exact hj73 v33 hf
              refine zw_icmp_eq hC 67 hf dX10_nearest_50 (by decide) (fun hf => ?_) (fun hf => ?_)
              · exact zw_sub [0, 1, 2, 4] rfl (hj67 hf)
              · refine zw_aload_n hC dX10_nearest_53 rfl 0 rfl ?_
                refine zw_iload hC dX10_nearest_54 4 rfl ?_
                obtain ⟨v38, hc38, hf⟩ := zb1_some hf
                refine zw_cV hC [.int v33] [] (st1 := [.int v38]) zm_X10_offBy (zc_X10_offBy hc38) zk_77 rfl kw_8_60 dX10_nearest_56 rfl (by decide) (Nat.le_of_ble_eq_true rfl) rfl rfl ?_
                refine zw_aload_n hC dX10_nearest_59 rfl 0 rfl ?_
                refine zw_iload_n hC dX10_nearest_60 rfl 3 rfl ?_
                obtain ⟨v39, hc39, hf⟩ := zb1_some hf
                refine zw_cV hC [.int v32] [.int v38] (st1 := [.int v39, .int v38]) zm_X10_offBy (zc_X10_offBy hc39) zk_77 rfl kw_8_60 dX10_nearest_61 rfl (by decide) (Nat.le_of_ble_eq_true rfl) rfl rfl ?_
                refine zw_icmp_ge hC 72 hf dX10_nearest_64 (by decide) (fun hf => ?_) (fun hf => ?_)
                · exact hj72 hf
                · exact zw_sub [0, 1, 2, 4] rfl (hj67 hf)
      refine zw_sub [2, 3, 4, 1, 0] rfl (hL30 _ ?_ n (-1 : Int32) (1 : Int32) hf)
      · intro v40 hf
        refine zw_iload_n hC dX10_nearest_80 rfl 1 rfl ?_
        have hj93 : ∀ (v41 : Int32), zf_X10_nearest_j93 v41 = some r → ZW E 93 [] [.int v41] M := by
          intro v41 hf
          unfold zf_X10_nearest_j93 at hf
          have h1 := Option.some.inj hf
          subst h1
          exact zw_iret hC hR dX10_nearest_93
        refine zw_if_ne hC 92 hf dX10_nearest_81 (by decide) (fun hf => ?_) (fun hf => ?_)
        · refine zw_iload_n hC dX10_nearest_92 rfl 2 rfl ?_
          exact zw_sub [] rfl (hj93 v40 hf)
        · refine zw_aload_n hC dX10_nearest_84 rfl 0 rfl ?_
          refine zw_iload_n hC dX10_nearest_85 rfl 2 rfl ?_
          obtain ⟨v42, hc42, hf⟩ := zb1_some hf
          refine zw_cV hC [.int v40] [] (st1 := [.int v42]) zm_X10_offBy (zc_X10_offBy hc42) zk_77 rfl kw_8_60 dX10_nearest_86 rfl (by decide) (Nat.le_of_ble_eq_true rfl) rfl rfl ?_
          refine zw_goto hC 93 dX10_nearest_89 (by decide) ?_
          exact zw_sub [] rfl (hj93 v42 hf)
    · exact zw_sub [] rfl (hj23 hf)
/-! ClassOfManyModel.within(II)I -/
theorem dX10_within_0 : decode cX10_within 0 = .ok (.iload_n 1, 1) := by decide +kernel
theorem dX10_within_1 : decode cX10_within 1 = .ok (.iconst 1, 1) := by decide +kernel
theorem dX10_within_2 : decode cX10_within 2 = .ok (.aload_n 0, 1) := by decide +kernel
theorem dX10_within_3 : decode cX10_within 3 = .ok (.getfield 7, 3) := by decide +kernel
theorem dX10_within_6 : decode cX10_within 6 = .ok (.iconst 0, 1) := by decide +kernel
theorem dX10_within_7 : decode cX10_within 7 = .ok (.iaload, 1) := by decide +kernel
theorem dX10_within_8 : decode cX10_within 8 = .ok (.invokestatic 65, 3) := by decide +kernel
theorem dX10_within_11 : decode cX10_within 11 = .ok (.ifCond .eq 13, 3) := by decide +kernel
theorem dX10_within_14 : decode cX10_within 14 = .ok (.iload_n 2, 1) := by decide +kernel
theorem dX10_within_15 : decode cX10_within 15 = .ok (.iconst 0, 1) := by decide +kernel
theorem dX10_within_16 : decode cX10_within 16 = .ok (.bipush 100, 2) := by decide +kernel
theorem dX10_within_18 : decode cX10_within 18 = .ok (.invokestatic 65, 3) := by decide +kernel
theorem dX10_within_21 : decode cX10_within 21 = .ok (.ifCond .ne 5, 3) := by decide +kernel
theorem dX10_within_24 : decode cX10_within 24 = .ok (.iconst (-1), 1) := by decide +kernel
theorem dX10_within_25 : decode cX10_within 25 = .ok (.ireturn, 1) := by decide +kernel
theorem dX10_within_26 : decode cX10_within 26 = .ok (.iconst 0, 1) := by decide +kernel
theorem dX10_within_27 : decode cX10_within 27 = .ok (.istore_n 3, 1) := by decide +kernel
theorem dX10_within_28 : decode cX10_within 28 = .ok (.iconst 1, 1) := by decide +kernel
theorem dX10_within_29 : decode cX10_within 29 = .ok (.istore 4, 2) := by decide +kernel
theorem dX10_within_31 : decode cX10_within 31 = .ok (.iload 4, 2) := by decide +kernel
theorem dX10_within_33 : decode cX10_within 33 = .ok (.aload_n 0, 1) := by decide +kernel
theorem dX10_within_34 : decode cX10_within 34 = .ok (.invokevirtual 223, 3) := by decide +kernel
theorem dX10_within_37 : decode cX10_within 37 = .ok (.if_icmp .gt 53, 3) := by decide +kernel
theorem dX10_within_40 : decode cX10_within 40 = .ok (.iload_n 3, 1) := by decide +kernel
theorem dX10_within_41 : decode cX10_within 41 = .ok (.iload 4, 2) := by decide +kernel
theorem dX10_within_43 : decode cX10_within 43 = .ok (.invokestatic 262, 3) := by decide +kernel
theorem dX10_within_46 : decode cX10_within 46 = .ok (.iload_n 1, 1) := by decide +kernel
theorem dX10_within_47 : decode cX10_within 47 = .ok (.if_icmp .ne 34, 3) := by decide +kernel
theorem dX10_within_50 : decode cX10_within 50 = .ok (.ldc2_w 327, 3) := by decide +kernel
theorem dX10_within_53 : decode cX10_within 53 = .ok (.aload_n 0, 1) := by decide +kernel
theorem dX10_within_54 : decode cX10_within 54 = .ok (.iload 4, 2) := by decide +kernel
theorem dX10_within_56 : decode cX10_within 56 = .ok (.invokevirtual 342, 3) := by decide +kernel
theorem dX10_within_59 : decode cX10_within 59 = .ok (.i2l, 1) := by decide +kernel
theorem dX10_within_60 : decode cX10_within 60 = .ok (.lmul, 1) := by decide +kernel
theorem dX10_within_61 : decode cX10_within 61 = .ok (.iload_n 2, 1) := by decide +kernel
theorem dX10_within_62 : decode cX10_within 62 = .ok (.i2l, 1) := by decide +kernel
theorem dX10_within_63 : decode cX10_within 63 = .ok (.aload_n 0, 1) := by decide +kernel
theorem dX10_within_64 : decode cX10_within 64 = .ok (.aload_n 0, 1) := by decide +kernel
theorem dX10_within_65 : decode cX10_within 65 = .ok (.invokevirtual 223, 3) := by decide +kernel
theorem dX10_within_68 : decode cX10_within 68 = .ok (.invokevirtual 259, 3) := by decide +kernel
theorem dX10_within_71 : decode cX10_within 71 = .ok (.i2l, 1) := by decide +kernel
theorem dX10_within_72 : decode cX10_within 72 = .ok (.lmul, 1) := by decide +kernel
theorem dX10_within_73 : decode cX10_within 73 = .ok (.lcmp, 1) := by decide +kernel
theorem dX10_within_74 : decode cX10_within 74 = .ok (.ifCond .gt 7, 3) := by decide +kernel
theorem dX10_within_77 : decode cX10_within 77 = .ok (.iconst 1, 1) := by decide +kernel
theorem dX10_within_78 : decode cX10_within 78 = .ok (.goto 4, 3) := by decide +kernel
theorem dX10_within_81 : decode cX10_within 81 = .ok (.iconst 0, 1) := by decide +kernel
theorem dX10_within_82 : decode cX10_within 82 = .ok (.iadd, 1) := by decide +kernel
theorem dX10_within_83 : decode cX10_within 83 = .ok (.istore_n 3, 1) := by decide +kernel
theorem dX10_within_84 : decode cX10_within 84 = .ok (.iinc 4 1, 3) := by decide +kernel
theorem dX10_within_87 : decode cX10_within 87 = .ok (.goto (-56), 3) := by decide +kernel
theorem dX10_within_90 : decode cX10_within 90 = .ok (.iload_n 3, 1) := by decide +kernel
theorem dX10_within_91 : decode cX10_within 91 = .ok (.ireturn, 1) := by decide +kernel
theorem zm_X10_within : ZMv "ClassOfManyModel" yX10_within cX10_within 5 (some .int) 2 := ⟨kw_8_67, kw_8_65, kw_8_66, kw_1_10, by decide +kernel, by decide⟩
def zf_X10_within_j24 : Option (Int32) :=
  some (-1 : Int32)
def zf_X10_within_j82 (R31 : Int32 → Int32 → Option (Int32)) (v32 : Int32) (v33 : Int32) (v37 : Int32) : Option (Int32) :=
  (R31 (v32 + v37) (v33 + (1 : Int32)))
def zf_X10_within_j81 (R31 : Int32 → Int32 → Option (Int32)) (v32 : Int32) (v33 : Int32) : Option (Int32) :=
  (zf_X10_within_j82 R31 v32 v33 (0 : Int32))
def zf_X10_within_L31 (M : ZMem) (n : Nat) (a1 : Int32) (a2 : Int32) (K90 : Int32 → Option (Int32)) : Nat → Int32 → Int32 → Option (Int32)
  | 0, _, _ => none
  | n31 + 1, v32, v33 =>
  zb1 (zf_X10_all M) (fun v35 => (if v35 < v33 then (K90 v32) else zb1 (zf_X10_bits n v33) (fun v36 => (if v36 = a1 then zb1 (zf_X10_offBy n v33 M) (fun v38 => zb1 (zf_X10_all M) (fun v39 => zb1 (zf_X10_claims n v39 M) (fun v40 => (if 0 < (lg_cmp ((100 : Int64) * (v38.toInt64)) ((a2.toInt64) * (v40.toInt64))) then (zf_X10_within_j81 (fun x0 x1 => zf_X10_within_L31 M n a1 a2 K90 n31 x0 x1) v32 v33) else (zf_X10_within_j82 (fun x0 x1 => zf_X10_within_L31 M n a1 a2 K90 n31 x0 x1) v32 v33 (1 : Int32)))))) else (zf_X10_within_j81 (fun x0 x1 => zf_X10_within_L31 M n a1 a2 K90 n31 x0 x1) v32 v33)))))
def zf_X10_within (n : Nat) (a1 : Int32) (a2 : Int32) (M : ZMem) : Option (Int32) :=
  zrd M 78 73 (0 : Int32) (fun v29 => zb1 (zf_X10_isIn a1 (1 : Int32) v29) (fun v30 => (if v30 = 0 then (zf_X10_within_j24) else zb1 (zf_X10_isIn a2 (0 : Int32) (100 : Int32)) (fun v31 => (if v31 = 0 then (zf_X10_within_j24) else (zf_X10_within_L31 M n a1 a2 (fun v41 => some v41) n (0 : Int32) (1 : Int32)))))))
set_option maxHeartbeats 4000000 in
set_option maxRecDepth 100000 in
theorem zc_X10_within {l : Launch} {D : va_G} {ad : Nat → Nat} {cA : Nat → ClassId} {n : Nat} {a1 : Int32} {a2 : Int32} {M : ZMem} {r : Int32} (hf : zf_X10_within n a1 a2 M = some r) : ZCt l D ad cA yX10_within cX10_within 5 (some .int) 6 [.ref (ad 77), .int a1, .int a2] M (some (.int r)) M := by
  refine zct (by decide +kernel) (Nat.le_of_ble_eq_true rfl) (lv := [(0, .ref (ad 77)), (1, .int a1), (2, .int a2)]) rfl (fun E hl hD had hcA hN hC hR => ?_)
  subst hl; subst hD; subst had; subst hcA
  unfold zf_X10_within at hf
  refine zw_iload_n hC dX10_within_0 rfl 1 rfl ?_
  refine zw_iconst hC (v := (1 : Int32)) dX10_within_1 (by decide) ?_
  refine zw_aload_n hC dX10_within_2 rfl 0 rfl ?_
  refine zw_getr (k' := 78) hC zF_Model_now zk_77 rfl dX10_within_3 kw_5_227 ?_
  refine zw_iconst hC (v := (0 : Int32)) dX10_within_6 (by decide) ?_
  refine zw_iald hC hf zk_78 dX10_within_7 (fun v29 hf => ?_)
  obtain ⟨v30, hc30, hf⟩ := zb1_some hf
  refine zw_cS hC [.int a1, .int (1 : Int32), .int v29] [] (st1 := [.int v30]) zm_X10_isIn (zc_X10_isIn hc30) kw_6_106 dX10_within_8 rfl (by decide) (Nat.le_of_ble_eq_true rfl) rfl rfl ?_
  have hj24 : zf_X10_within_j24 = some r → ZW E 24 [] [] M := by
    intro  hf
    unfold zf_X10_within_j24 at hf
    refine zw_iconst hC (v := (-1 : Int32)) dX10_within_24 (by decide) ?_
    have h1 := Option.some.inj hf
    subst h1
    exact zw_iret hC hR dX10_within_25
  refine zw_if_eq hC 24 hf dX10_within_11 (by decide) (fun hf => ?_) (fun hf => ?_)
  · exact zw_sub [] rfl (hj24 hf)
  · refine zw_iload_n hC dX10_within_14 rfl 2 rfl ?_
    refine zw_iconst hC (v := (0 : Int32)) dX10_within_15 (by decide) ?_
    refine zw_bipush hC (v := (100 : Int32)) dX10_within_16 (by decide) ?_
    obtain ⟨v31, hc31, hf⟩ := zb1_some hf
    refine zw_cS hC [.int a2, .int (0 : Int32), .int (100 : Int32)] [] (st1 := [.int v31]) zm_X10_isIn (zc_X10_isIn hc31) kw_6_106 dX10_within_18 rfl (by decide) (Nat.le_of_ble_eq_true rfl) rfl rfl ?_
    refine zw_if_ne hC 26 hf dX10_within_21 (by decide) (fun hf => ?_) (fun hf => ?_)
    · refine zw_iconst hC (v := (0 : Int32)) dX10_within_26 (by decide) ?_
      refine zw_istore_n hC (lv' := [(3, .int (0 : Int32)), (0, .ref (zad E 77)), (1, .int a1), (2, .int a2)]) dX10_within_27 rfl hN (by decide) rfl ?_
      refine zw_iconst hC (v := (1 : Int32)) dX10_within_28 (by decide) ?_
      refine zw_istore hC (lv' := [(4, .int (1 : Int32)), (3, .int (0 : Int32)), (0, .ref (zad E 77)), (1, .int a1), (2, .int a2)]) dX10_within_29 hN (by decide) rfl ?_
      have hL31 : ∀ (K90 : Int32 → Option (Int32)), (∀ (v34 : Int32), K90 v34 = some r → ZW E 90 [(3, .int v34)] [] M) → ∀ (n31 : Nat), ∀ (v32 : Int32), ∀ (v33 : Int32), zf_X10_within_L31 M n a1 a2 K90 n31 v32 v33 = some r → ZW E 31 [(0, .ref (zad E 77)), (1, .int a1), (2, .int a2), (3, .int v32), (4, .int v33)] [] M := by
        intro K90 hK90
        intro n31
        induction n31 with
        | zero => intro v32 v33 hf; rw [zf_X10_within_L31] at hf; cases hf
        | succ n31 ih31 =>
          intro v32 v33 hf
          rw [zf_X10_within_L31] at hf
          refine zw_iload hC dX10_within_31 4 rfl ?_
          refine zw_aload_n hC dX10_within_33 rfl 0 rfl ?_
          obtain ⟨v35, hc35, hf⟩ := zb1_some hf
          refine zw_cV hC [] [.int v33] (st1 := [.int v35, .int v33]) zm_X10_all (zc_X10_all hc35) zk_77 rfl kw_7_44 dX10_within_34 rfl (by decide) (Nat.le_of_ble_eq_true rfl) rfl rfl ?_
          refine zw_icmp_gt hC 90 hf dX10_within_37 (by decide) (fun hf => ?_) (fun hf => ?_)
          · exact zw_sub [3] rfl (hK90 v32 hf)
          · refine zw_iload_n hC dX10_within_40 rfl 3 rfl ?_
            refine zw_iload hC dX10_within_41 4 rfl ?_
            obtain ⟨v36, hc36, hf⟩ := zb1_some hf
            refine zw_cS hC [.int v33] [.int v32] (st1 := [.int v36, .int v32]) zm_X10_bits (zc_X10_bits hc36) kw_7_21 dX10_within_43 rfl (by decide) (Nat.le_of_ble_eq_true rfl) rfl rfl ?_
            refine zw_iload_n hC dX10_within_46 rfl 1 rfl ?_
            have hj82 : ∀ (v37 : Int32), zf_X10_within_j82 (fun x0 x1 => zf_X10_within_L31 M n a1 a2 K90 n31 x0 x1) v32 v33 v37 = some r → ZW E 82 [(0, .ref (zad E 77)), (1, .int a1), (2, .int a2), (4, .int v33)] [.int v37, .int v32] M := by
              intro v37 hf
              unfold zf_X10_within_j82 at hf
              refine zw_iadd hC dX10_within_82 ?_
              refine zw_istore_n hC (lv' := [(3, .int (v32 + v37)), (0, .ref (zad E 77)), (1, .int a1), (2, .int a2), (4, .int v33)]) dX10_within_83 rfl hN (by decide) rfl ?_
              refine zw_iinc hC (v := (1 : Int32)) (lv' := [(4, .int (v33 + (1 : Int32))), (3, .int (v32 + v37)), (0, .ref (zad E 77)), (1, .int a1), (2, .int a2)]) dX10_within_84 4 rfl (by decide) hN (by decide) rfl ?_
              refine zw_goto hC 31 dX10_within_87 (by decide) ?_
              exact zw_sub [2, 3, 4, 1, 0] rfl (ih31 (v32 + v37) (v33 + (1 : Int32)) hf)
            have hj81 : zf_X10_within_j81 (fun x0 x1 => zf_X10_within_L31 M n a1 a2 K90 n31 x0 x1) v32 v33 = some r → ZW E 81 [(0, .ref (zad E 77)), (1, .int a1), (2, .int a2), (4, .int v33)] [.int v32] M := by
              intro  hf
              unfold zf_X10_within_j81 at hf
              refine zw_iconst hC (v := (0 : Int32)) dX10_within_81 (by decide) ?_
              exact hj82 (0 : Int32) hf
            refine zw_icmp_ne hC 81 hf dX10_within_47 (by decide) (fun hf => ?_) (fun hf => ?_)
            · exact zw_sub [0, 1, 2, 4] rfl (hj81 hf)
            · refine zw_ldc2 hC dX10_within_50 kw_7_234 ?_
              refine zw_aload_n hC dX10_within_53 rfl 0 rfl ?_
              refine zw_iload hC dX10_within_54 4 rfl ?_
              obtain ⟨v38, hc38, hf⟩ := zb1_some hf
              refine zw_cV hC [.int v33] [.long (100 : Int64), .int v32] (st1 := [.int v38, .long (100 : Int64), .int v32]) zm_X10_offBy (zc_X10_offBy hc38) zk_77 rfl kw_8_60 dX10_within_56 rfl (by decide) (Nat.le_of_ble_eq_true rfl) rfl rfl ?_
              refine zw_i2l hC dX10_within_59 ?_
              refine zw_lmul hC dX10_within_60 ?_
              refine zw_iload_n hC dX10_within_61 rfl 2 rfl ?_
              refine zw_i2l hC dX10_within_62 ?_
              refine zw_aload_n hC dX10_within_63 rfl 0 rfl ?_
              refine zw_aload_n hC dX10_within_64 rfl 0 rfl ?_
              obtain ⟨v39, hc39, hf⟩ := zb1_some hf
              refine zw_cV hC [] [.ref (zad E 77), .long (a2.toInt64), .long ((100 : Int64) * (v38.toInt64)), .int v32] (st1 := [.int v39, .ref (zad E 77), .long (a2.toInt64), .long ((100 : Int64) * (v38.toInt64)), .int v32]) zm_X10_all (zc_X10_all hc39) zk_77 rfl kw_7_44 dX10_within_65 rfl (by decide) (Nat.le_of_ble_eq_true rfl) rfl rfl ?_
              obtain ⟨v40, hc40, hf⟩ := zb1_some hf
              refine zw_cV hC [.int v39] [.long (a2.toInt64), .long ((100 : Int64) * (v38.toInt64)), .int v32] (st1 := [.int v40, .long (a2.toInt64), .long ((100 : Int64) * (v38.toInt64)), .int v32]) zm_X10_claims (zc_X10_claims hc40) zk_77 rfl kw_7_48 dX10_within_68 rfl (by decide) (Nat.le_of_ble_eq_true rfl) rfl rfl ?_
              refine zw_i2l hC dX10_within_71 ?_
              refine zw_lmul hC dX10_within_72 ?_
              refine zw_lcmp hC dX10_within_73 ?_
              refine zw_if_gt hC 81 hf dX10_within_74 (by decide) (fun hf => ?_) (fun hf => ?_)
              · exact zw_sub [0, 1, 2, 4] rfl (hj81 hf)
              · refine zw_iconst hC (v := (1 : Int32)) dX10_within_77 (by decide) ?_
                refine zw_goto hC 82 dX10_within_78 (by decide) ?_
                exact zw_sub [0, 1, 2, 4] rfl (hj82 (1 : Int32) hf)
      refine zw_sub [2, 3, 4, 1, 0] rfl (hL31 _ ?_ n (0 : Int32) (1 : Int32) hf)
      · intro v41 hf
        refine zw_iload_n hC dX10_within_90 rfl 0 rfl ?_
        have h1 := Option.some.inj hf
        subst h1
        exact zw_iret hC hR dX10_within_91
    · exact zw_sub [] rfl (hj24 hf)
/-! ClassOfManyModel.spellsByte(I)V -/
theorem dX10_spellsByte_0 : decode cX10_spellsByte 0 = .ok (.aload_n 0, 1) := by decide +kernel
theorem dX10_spellsByte_1 : decode cX10_spellsByte 1 = .ok (.getfield 55, 3) := by decide +kernel
theorem dX10_spellsByte_4 : decode cX10_spellsByte 4 = .ok (.aload_n 0, 1) := by decide +kernel
theorem dX10_spellsByte_5 : decode cX10_spellsByte 5 = .ok (.getfield 345, 3) := by decide +kernel
theorem dX10_spellsByte_8 : decode cX10_spellsByte 8 = .ok (.iload_n 1, 1) := by decide +kernel
theorem dX10_spellsByte_9 : decode cX10_spellsByte 9 = .ok (.iastore, 1) := by decide +kernel
theorem dX10_spellsByte_10 : decode cX10_spellsByte 10 = .ok (.aload_n 0, 1) := by decide +kernel
theorem dX10_spellsByte_11 : decode cX10_spellsByte 11 = .ok (.dup, 1) := by decide +kernel
theorem dX10_spellsByte_12 : decode cX10_spellsByte 12 = .ok (.getfield 345, 3) := by decide +kernel
theorem dX10_spellsByte_15 : decode cX10_spellsByte 15 = .ok (.iconst 1, 1) := by decide +kernel
theorem dX10_spellsByte_16 : decode cX10_spellsByte 16 = .ok (.iadd, 1) := by decide +kernel
theorem dX10_spellsByte_17 : decode cX10_spellsByte 17 = .ok (.putfield 345, 3) := by decide +kernel
theorem dX10_spellsByte_20 : decode cX10_spellsByte 20 = .ok (.return_, 1) := by decide +kernel
theorem zm_X10_spellsByte : ZMv "ClassOfManyModel" yX10_spellsByte cX10_spellsByte 2 (none) 1 := ⟨kw_8_83, kw_8_82, kp_116, kw_1_10, by decide +kernel, by decide⟩
def zf_X10_spellsByte (a1 : Int32) (M : ZMem) : Option (ZMem) :=
  zst M 93 2000 (M 77 36) a1 (fun M23 => zput M23 77 36 ((M23 77 36) + (1 : Int32)) (fun M24 => some M24))
set_option maxHeartbeats 4000000 in
set_option maxRecDepth 100000 in
theorem zc_X10_spellsByte {l : Launch} {D : va_G} {ad : Nat → Nat} {cA : Nat → ClassId} {a1 : Int32} {M : ZMem} {M' : ZMem} (hf : zf_X10_spellsByte a1 M = some M') : ZCt l D ad cA yX10_spellsByte cX10_spellsByte 2 (none) 1 [.ref (ad 77), .int a1] M none M' := by
  refine zct (by decide +kernel) (Nat.le_of_ble_eq_true rfl) (lv := [(0, .ref (ad 77)), (1, .int a1)]) rfl (fun E hl hD had hcA hN hC hR => ?_)
  subst hl; subst hD; subst had; subst hcA
  unfold zf_X10_spellsByte at hf
  refine zw_aload_n hC dX10_spellsByte_0 rfl 0 rfl ?_
  refine zw_getr (k' := 93) hC zF_Model_spelt zk_77 rfl dX10_spellsByte_1 kw_6_21 ?_
  refine zw_aload_n hC dX10_spellsByte_4 rfl 0 rfl ?_
  refine zw_geti hC zF_Model_speltMany zk_77 dX10_spellsByte_5 kw_6_22 ?_
  refine zw_iload_n hC dX10_spellsByte_8 rfl 1 rfl ?_
  refine zw_iast hC hf zk_93 dX10_spellsByte_9 (fun M23 hf => ?_)
  refine zw_aload_n hC dX10_spellsByte_10 rfl 0 rfl ?_
  refine zw_dup hC dX10_spellsByte_11 rfl ?_
  refine zw_geti hC zF_Model_speltMany zk_77 dX10_spellsByte_12 kw_6_22 ?_
  refine zw_iconst hC (v := (1 : Int32)) dX10_spellsByte_15 (by decide) ?_
  refine zw_iadd hC dX10_spellsByte_16 ?_
  refine zw_puti hC hf zF_Model_speltMany zk_77 dX10_spellsByte_17 kw_6_22 (fun M24 hf => ?_)
  have h1 := Option.some.inj hf
  subst h1
  exact zw_vret hC hR dX10_spellsByte_20
/-! ClassOfManyModel.spells(J)V -/
theorem dX10_spells_0 : decode cX10_spells 0 = .ok (.lconst 1, 1) := by decide +kernel
theorem dX10_spells_1 : decode cX10_spells 1 = .ok (.lstore_n 3, 1) := by decide +kernel
theorem dX10_spells_2 : decode cX10_spells 2 = .ok (.ldc2_w 102, 3) := by decide +kernel
theorem dX10_spells_5 : decode cX10_spells 5 = .ok (.lload_n 3, 1) := by decide +kernel
theorem dX10_spells_6 : decode cX10_spells 6 = .ok (.lmul, 1) := by decide +kernel
theorem dX10_spells_7 : decode cX10_spells 7 = .ok (.lload_n 1, 1) := by decide +kernel
theorem dX10_spells_8 : decode cX10_spells 8 = .ok (.lcmp, 1) := by decide +kernel
theorem dX10_spells_9 : decode cX10_spells 9 = .ok (.ifCond .gt 12, 3) := by decide +kernel
theorem dX10_spells_12 : decode cX10_spells 12 = .ok (.lload_n 3, 1) := by decide +kernel
theorem dX10_spells_13 : decode cX10_spells 13 = .ok (.ldc2_w 102, 3) := by decide +kernel
theorem dX10_spells_16 : decode cX10_spells 16 = .ok (.lmul, 1) := by decide +kernel
theorem dX10_spells_17 : decode cX10_spells 17 = .ok (.lstore_n 3, 1) := by decide +kernel
theorem dX10_spells_18 : decode cX10_spells 18 = .ok (.goto (-16), 3) := by decide +kernel
theorem dX10_spells_21 : decode cX10_spells 21 = .ok (.lload_n 3, 1) := by decide +kernel
theorem dX10_spells_22 : decode cX10_spells 22 = .ok (.lstore 5, 2) := by decide +kernel
theorem dX10_spells_24 : decode cX10_spells 24 = .ok (.lload 5, 2) := by decide +kernel
theorem dX10_spells_26 : decode cX10_spells 26 = .ok (.lconst 0, 1) := by decide +kernel
theorem dX10_spells_27 : decode cX10_spells 27 = .ok (.lcmp, 1) := by decide +kernel
theorem dX10_spells_28 : decode cX10_spells 28 = .ok (.ifCond .le 30, 3) := by decide +kernel
theorem dX10_spells_31 : decode cX10_spells 31 = .ok (.aload_n 0, 1) := by decide +kernel
theorem dX10_spells_32 : decode cX10_spells 32 = .ok (.lload_n 1, 1) := by decide +kernel
theorem dX10_spells_33 : decode cX10_spells 33 = .ok (.lload 5, 2) := by decide +kernel
theorem dX10_spells_35 : decode cX10_spells 35 = .ok (.ldiv, 1) := by decide +kernel
theorem dX10_spells_36 : decode cX10_spells 36 = .ok (.ldc2_w 102, 3) := by decide +kernel
theorem dX10_spells_39 : decode cX10_spells 39 = .ok (.lrem, 1) := by decide +kernel
theorem dX10_spells_40 : decode cX10_spells 40 = .ok (.l2i, 1) := by decide +kernel
theorem dX10_spells_41 : decode cX10_spells 41 = .ok (.bipush 96, 2) := by decide +kernel
theorem dX10_spells_43 : decode cX10_spells 43 = .ok (.iadd, 1) := by decide +kernel
theorem dX10_spells_44 : decode cX10_spells 44 = .ok (.invokevirtual 348, 3) := by decide +kernel
theorem dX10_spells_47 : decode cX10_spells 47 = .ok (.lload 5, 2) := by decide +kernel
theorem dX10_spells_49 : decode cX10_spells 49 = .ok (.ldc2_w 102, 3) := by decide +kernel
theorem dX10_spells_52 : decode cX10_spells 52 = .ok (.ldiv, 1) := by decide +kernel
theorem dX10_spells_53 : decode cX10_spells 53 = .ok (.lstore 5, 2) := by decide +kernel
theorem dX10_spells_55 : decode cX10_spells 55 = .ok (.goto (-31), 3) := by decide +kernel
theorem dX10_spells_58 : decode cX10_spells 58 = .ok (.return_, 1) := by decide +kernel
theorem zm_X10_spells : ZMv "ClassOfManyModel" yX10_spells cX10_spells 7 (none) 1 := ⟨kw_8_79, kw_8_78, kp_115, kw_1_10, by decide +kernel, by decide⟩
def zf_X10_spells_L2 (w901 : Int64) (K21 : Int64 → Option (ZMem)) : Nat → Int64 → Option (ZMem)
  | 0, _ => none
  | n2 + 1, w22 =>
  (if 0 < (lg_cmp ((27 : Int64) * w22) w901) then (K21 w22) else (zf_X10_spells_L2 w901 K21 n2 (w22 * (27 : Int64))))
def zf_X10_spells_L24 (w901 : Int64) (K58 : ZMem → Option (ZMem)) : Nat → Int64 → ZMem → Option (ZMem)
  | 0, _, _ => none
  | n24 + 1, w25, M26 =>
  (if (lg_cmp w25 (0 : Int64)) ≤ 0 then (K58 M26) else zldiv w901 w25 (fun w28 => zb1 (zf_X10_spellsByte (((w28 - w28 / (27 : Int64) * (27 : Int64)).toInt32) + (96 : Int32)) M26) (fun M29 => (zf_X10_spells_L24 w901 K58 n24 (w25 / (27 : Int64)) M29))))
def zf_X10_spells (n : Nat) (w901 : Int64) (M : ZMem) : Option (ZMem) :=
  (zf_X10_spells_L2 w901 (fun w24 => (zf_X10_spells_L24 w901 (fun M30 => some M30) n w24 M)) n (1 : Int64))
set_option maxHeartbeats 4000000 in
set_option maxRecDepth 100000 in
theorem zc_X10_spells {l : Launch} {D : va_G} {ad : Nat → Nat} {cA : Nat → ClassId} {n : Nat} {w901 : Int64} {M : ZMem} {M' : ZMem} (hf : zf_X10_spells n w901 M = some M') : ZCt l D ad cA yX10_spells cX10_spells 7 (none) 2 [.ref (ad 77), .long w901] M none M' := by
  refine zct (by decide +kernel) (Nat.le_of_ble_eq_true rfl) (lv := [(0, .ref (ad 77)), (1, .long w901)]) rfl (fun E hl hD had hcA hN hC hR => ?_)
  subst hl; subst hD; subst had; subst hcA
  unfold zf_X10_spells at hf
  refine zw_lconst hC (v := (1 : Int64)) dX10_spells_0 (by decide) ?_
  refine zw_lstore_n hC (lv' := [(3, .long (1 : Int64)), (0, .ref (zad E 77)), (1, .long w901)]) dX10_spells_1 rfl hN (by decide) rfl ?_
  have hL2 : ∀ (K21 : Int64 → Option (ZMem)), (∀ (w23 : Int64), K21 w23 = some M' → ZW E 21 [(0, .ref (zad E 77)), (1, .long w901), (3, .long w23)] [] M) → ∀ (n2 : Nat), ∀ (w22 : Int64), zf_X10_spells_L2 w901 K21 n2 w22 = some M' → ZW E 2 [(0, .ref (zad E 77)), (1, .long w901), (3, .long w22)] [] M := by
    intro K21 hK21
    intro n2
    induction n2 with
    | zero => intro w22 hf; rw [zf_X10_spells_L2] at hf; cases hf
    | succ n2 ih2 =>
      intro w22 hf
      rw [zf_X10_spells_L2] at hf
      refine zw_ldc2 hC dX10_spells_2 kw_6_139 ?_
      refine zw_lload_n hC dX10_spells_5 rfl 2 rfl ?_
      refine zw_lmul hC dX10_spells_6 ?_
      refine zw_lload_n hC dX10_spells_7 rfl 1 rfl ?_
      refine zw_lcmp hC dX10_spells_8 ?_
      refine zw_if_gt hC 21 hf dX10_spells_9 (by decide) (fun hf => ?_) (fun hf => ?_)
      · exact hK21 w22 hf
      · refine zw_lload_n hC dX10_spells_12 rfl 2 rfl ?_
        refine zw_ldc2 hC dX10_spells_13 kw_6_139 ?_
        refine zw_lmul hC dX10_spells_16 ?_
        refine zw_lstore_n hC (lv' := [(3, .long (w22 * (27 : Int64))), (0, .ref (zad E 77)), (1, .long w901)]) dX10_spells_17 rfl hN (by decide) rfl ?_
        refine zw_goto hC 2 dX10_spells_18 (by decide) ?_
        exact zw_sub [1, 2, 0] rfl (ih2 (w22 * (27 : Int64)) hf)
  refine zw_sub [1, 2, 0] rfl (hL2 _ ?_ n (1 : Int64) hf)
  · intro w24 hf
    refine zw_lload_n hC dX10_spells_21 rfl 2 rfl ?_
    refine zw_lstore hC (lv' := [(5, .long w24), (0, .ref (zad E 77)), (1, .long w901), (3, .long w24)]) dX10_spells_22 hN (by decide) rfl ?_
    have hL24 : ∀ (K58 : ZMem → Option (ZMem)), (∀ (M27 : ZMem), K58 M27 = some M' → ZW E 58 [] [] M27) → ∀ (n24 : Nat), ∀ (w25 : Int64), ∀ (M26 : ZMem), zf_X10_spells_L24 w901 K58 n24 w25 M26 = some M' → ZW E 24 [(0, .ref (zad E 77)), (1, .long w901), (5, .long w25)] [] M26 := by
      intro K58 hK58
      intro n24
      induction n24 with
      | zero => intro w25 M26 hf; rw [zf_X10_spells_L24] at hf; cases hf
      | succ n24 ih24 =>
        intro w25 M26 hf
        rw [zf_X10_spells_L24] at hf
        refine zw_lload hC dX10_spells_24 2 rfl ?_
        refine zw_lconst hC (v := (0 : Int64)) dX10_spells_26 (by decide) ?_
        refine zw_lcmp hC dX10_spells_27 ?_
        refine zw_if_le hC 58 hf dX10_spells_28 (by decide) (fun hf => ?_) (fun hf => ?_)
        · exact zw_sub [] rfl (hK58 M26 hf)
        · refine zw_aload_n hC dX10_spells_31 rfl 0 rfl ?_
          refine zw_lload_n hC dX10_spells_32 rfl 1 rfl ?_
          refine zw_lload hC dX10_spells_33 2 rfl ?_
          refine zw_ldiv hC hf dX10_spells_35 (fun w28 hf => ?_)
          refine zw_ldc2 hC dX10_spells_36 kw_6_139 ?_
          refine zw_lremc hC dX10_spells_39 (by decide) ?_
          refine zw_l2i hC dX10_spells_40 ?_
          refine zw_bipush hC (v := (96 : Int32)) dX10_spells_41 (by decide) ?_
          refine zw_iadd hC dX10_spells_43 ?_
          obtain ⟨M29, hcM29, hf⟩ := zb1_some hf
          refine zw_cV hC [.int (((w28 - w28 / (27 : Int64) * (27 : Int64)).toInt32) + (96 : Int32))] [] (st1 := []) zm_X10_spellsByte (zc_X10_spellsByte hcM29) zk_77 rfl kw_8_80 dX10_spells_44 rfl (by decide) (Nat.le_of_ble_eq_true rfl) rfl rfl ?_
          refine zw_lload hC dX10_spells_47 2 rfl ?_
          refine zw_ldc2 hC dX10_spells_49 kw_6_139 ?_
          refine zw_ldivc hC dX10_spells_52 (by decide) ?_
          refine zw_lstore hC (lv' := [(5, .long (w25 / (27 : Int64))), (0, .ref (zad E 77)), (1, .long w901)]) dX10_spells_53 hN (by decide) rfl ?_
          refine zw_goto hC 24 dX10_spells_55 (by decide) ?_
          exact zw_sub [1, 2, 0] rfl (ih24 (w25 / (27 : Int64)) M29 hf)
    refine zw_sub [1, 2, 0] rfl (hL24 _ ?_ n w24 M hf)
    · intro M30 hf
      have h1 := Option.some.inj hf
      subst h1
      exact zw_vret hC hR dX10_spells_58
/-! ClassOfManyModel.spellsNumber(I)V -/
theorem dX10_spellsNumber_0 : decode cX10_spellsNumber 0 = .ok (.aload_n 0, 1) := by decide +kernel
theorem dX10_spellsNumber_1 : decode cX10_spellsNumber 1 = .ok (.bipush 32, 2) := by decide +kernel
theorem dX10_spellsNumber_3 : decode cX10_spellsNumber 3 = .ok (.invokevirtual 348, 3) := by decide +kernel
theorem dX10_spellsNumber_6 : decode cX10_spellsNumber 6 = .ok (.iconst 1, 1) := by decide +kernel
theorem dX10_spellsNumber_7 : decode cX10_spellsNumber 7 = .ok (.istore_n 2, 1) := by decide +kernel
theorem dX10_spellsNumber_8 : decode cX10_spellsNumber 8 = .ok (.iload_n 2, 1) := by decide +kernel
theorem dX10_spellsNumber_9 : decode cX10_spellsNumber 9 = .ok (.iload_n 1, 1) := by decide +kernel
theorem dX10_spellsNumber_10 : decode cX10_spellsNumber 10 = .ok (.bipush 10, 2) := by decide +kernel
theorem dX10_spellsNumber_12 : decode cX10_spellsNumber 12 = .ok (.idiv, 1) := by decide +kernel
theorem dX10_spellsNumber_13 : decode cX10_spellsNumber 13 = .ok (.if_icmp .gt 11, 3) := by decide +kernel
theorem dX10_spellsNumber_16 : decode cX10_spellsNumber 16 = .ok (.iload_n 2, 1) := by decide +kernel
theorem dX10_spellsNumber_17 : decode cX10_spellsNumber 17 = .ok (.bipush 10, 2) := by decide +kernel
theorem dX10_spellsNumber_19 : decode cX10_spellsNumber 19 = .ok (.imul, 1) := by decide +kernel
theorem dX10_spellsNumber_20 : decode cX10_spellsNumber 20 = .ok (.istore_n 2, 1) := by decide +kernel
theorem dX10_spellsNumber_21 : decode cX10_spellsNumber 21 = .ok (.goto (-13), 3) := by decide +kernel
theorem dX10_spellsNumber_24 : decode cX10_spellsNumber 24 = .ok (.iload_n 2, 1) := by decide +kernel
theorem dX10_spellsNumber_25 : decode cX10_spellsNumber 25 = .ok (.ifCond .le 24, 3) := by decide +kernel
theorem dX10_spellsNumber_28 : decode cX10_spellsNumber 28 = .ok (.aload_n 0, 1) := by decide +kernel
theorem dX10_spellsNumber_29 : decode cX10_spellsNumber 29 = .ok (.bipush 48, 2) := by decide +kernel
theorem dX10_spellsNumber_31 : decode cX10_spellsNumber 31 = .ok (.iload_n 1, 1) := by decide +kernel
theorem dX10_spellsNumber_32 : decode cX10_spellsNumber 32 = .ok (.iload_n 2, 1) := by decide +kernel
theorem dX10_spellsNumber_33 : decode cX10_spellsNumber 33 = .ok (.idiv, 1) := by decide +kernel
theorem dX10_spellsNumber_34 : decode cX10_spellsNumber 34 = .ok (.bipush 10, 2) := by decide +kernel
theorem dX10_spellsNumber_36 : decode cX10_spellsNumber 36 = .ok (.irem, 1) := by decide +kernel
theorem dX10_spellsNumber_37 : decode cX10_spellsNumber 37 = .ok (.iadd, 1) := by decide +kernel
theorem dX10_spellsNumber_38 : decode cX10_spellsNumber 38 = .ok (.invokevirtual 348, 3) := by decide +kernel
theorem dX10_spellsNumber_41 : decode cX10_spellsNumber 41 = .ok (.iload_n 2, 1) := by decide +kernel
theorem dX10_spellsNumber_42 : decode cX10_spellsNumber 42 = .ok (.bipush 10, 2) := by decide +kernel
theorem dX10_spellsNumber_44 : decode cX10_spellsNumber 44 = .ok (.idiv, 1) := by decide +kernel
theorem dX10_spellsNumber_45 : decode cX10_spellsNumber 45 = .ok (.istore_n 2, 1) := by decide +kernel
theorem dX10_spellsNumber_46 : decode cX10_spellsNumber 46 = .ok (.goto (-22), 3) := by decide +kernel
theorem dX10_spellsNumber_49 : decode cX10_spellsNumber 49 = .ok (.return_, 1) := by decide +kernel
theorem zm_X10_spellsNumber : ZMv "ClassOfManyModel" yX10_spellsNumber cX10_spellsNumber 3 (none) 1 := ⟨kw_8_87, kw_8_86, kp_117, kw_1_10, by decide +kernel, by decide⟩
def zf_X10_spellsNumber_L24 (a1 : Int32) (K49 : ZMem → Option (ZMem)) : Nat → Int32 → ZMem → Option (ZMem)
  | 0, _, _ => none
  | n24 + 1, v24, M25 =>
  (if v24 ≤ 0 then (K49 M25) else zdiv a1 v24 (fun v27 => zb1 (zf_X10_spellsByte ((48 : Int32) + (v27 - v27 / (10 : Int32) * (10 : Int32))) M25) (fun M28 => (zf_X10_spellsNumber_L24 a1 K49 n24 (v24 / (10 : Int32)) M28))))
def zf_X10_spellsNumber_L8 (a1 : Int32) (K24 : Int32 → Option (ZMem)) : Nat → Int32 → Option (ZMem)
  | 0, _ => none
  | n8 + 1, v29 =>
  (if (a1 / (10 : Int32)) < v29 then (K24 v29) else (zf_X10_spellsNumber_L8 a1 K24 n8 (v29 * (10 : Int32))))
def zf_X10_spellsNumber (n : Nat) (a1 : Int32) (M : ZMem) : Option (ZMem) :=
  zb1 (zf_X10_spellsByte (32 : Int32) M) (fun M23 => (zf_X10_spellsNumber_L8 a1 (fun v31 => (zf_X10_spellsNumber_L24 a1 (fun M32 => some M32) n v31 M23)) n (1 : Int32)))
set_option maxHeartbeats 4000000 in
set_option maxRecDepth 100000 in
theorem zc_X10_spellsNumber {l : Launch} {D : va_G} {ad : Nat → Nat} {cA : Nat → ClassId} {n : Nat} {a1 : Int32} {M : ZMem} {M' : ZMem} (hf : zf_X10_spellsNumber n a1 M = some M') : ZCt l D ad cA yX10_spellsNumber cX10_spellsNumber 3 (none) 2 [.ref (ad 77), .int a1] M none M' := by
  refine zct (by decide +kernel) (Nat.le_of_ble_eq_true rfl) (lv := [(0, .ref (ad 77)), (1, .int a1)]) rfl (fun E hl hD had hcA hN hC hR => ?_)
  subst hl; subst hD; subst had; subst hcA
  unfold zf_X10_spellsNumber at hf
  refine zw_aload_n hC dX10_spellsNumber_0 rfl 0 rfl ?_
  refine zw_bipush hC (v := (32 : Int32)) dX10_spellsNumber_1 (by decide) ?_
  obtain ⟨M23, hcM23, hf⟩ := zb1_some hf
  refine zw_cV hC [.int (32 : Int32)] [] (st1 := []) zm_X10_spellsByte (zc_X10_spellsByte hcM23) zk_77 rfl kw_8_80 dX10_spellsNumber_3 rfl (by decide) (Nat.le_of_ble_eq_true rfl) rfl rfl ?_
  refine zw_iconst hC (v := (1 : Int32)) dX10_spellsNumber_6 (by decide) ?_
  refine zw_istore_n hC (lv' := [(2, .int (1 : Int32)), (0, .ref (zad E 77)), (1, .int a1)]) dX10_spellsNumber_7 rfl hN (by decide) rfl ?_
  have hL24 : ∀ (K49 : ZMem → Option (ZMem)), (∀ (M26 : ZMem), K49 M26 = some M' → ZW E 49 [] [] M26) → ∀ (n24 : Nat), ∀ (v24 : Int32), ∀ (M25 : ZMem), zf_X10_spellsNumber_L24 a1 K49 n24 v24 M25 = some M' → ZW E 24 [(0, .ref (zad E 77)), (1, .int a1), (2, .int v24)] [] M25 := by
    intro K49 hK49
    intro n24
    induction n24 with
    | zero => intro v24 M25 hf; rw [zf_X10_spellsNumber_L24] at hf; cases hf
    | succ n24 ih24 =>
      intro v24 M25 hf
      rw [zf_X10_spellsNumber_L24] at hf
      refine zw_iload_n hC dX10_spellsNumber_24 rfl 2 rfl ?_
      refine zw_if_le hC 49 hf dX10_spellsNumber_25 (by decide) (fun hf => ?_) (fun hf => ?_)
      · exact zw_sub [] rfl (hK49 M25 hf)
      · refine zw_aload_n hC dX10_spellsNumber_28 rfl 0 rfl ?_
        refine zw_bipush hC (v := (48 : Int32)) dX10_spellsNumber_29 (by decide) ?_
        refine zw_iload_n hC dX10_spellsNumber_31 rfl 1 rfl ?_
        refine zw_iload_n hC dX10_spellsNumber_32 rfl 2 rfl ?_
        refine zw_idiv hC hf dX10_spellsNumber_33 (fun v27 hf => ?_)
        refine zw_bipush hC (v := (10 : Int32)) dX10_spellsNumber_34 (by decide) ?_
        refine zw_iremc hC dX10_spellsNumber_36 (by decide) ?_
        refine zw_iadd hC dX10_spellsNumber_37 ?_
        obtain ⟨M28, hcM28, hf⟩ := zb1_some hf
        refine zw_cV hC [.int ((48 : Int32) + (v27 - v27 / (10 : Int32) * (10 : Int32)))] [] (st1 := []) zm_X10_spellsByte (zc_X10_spellsByte hcM28) zk_77 rfl kw_8_80 dX10_spellsNumber_38 rfl (by decide) (Nat.le_of_ble_eq_true rfl) rfl rfl ?_
        refine zw_iload_n hC dX10_spellsNumber_41 rfl 2 rfl ?_
        refine zw_bipush hC (v := (10 : Int32)) dX10_spellsNumber_42 (by decide) ?_
        refine zw_idivc hC dX10_spellsNumber_44 (by decide) ?_
        refine zw_istore_n hC (lv' := [(2, .int (v24 / (10 : Int32))), (0, .ref (zad E 77)), (1, .int a1)]) dX10_spellsNumber_45 rfl hN (by decide) rfl ?_
        refine zw_goto hC 24 dX10_spellsNumber_46 (by decide) ?_
        exact zw_sub [1, 2, 0] rfl (ih24 (v24 / (10 : Int32)) M28 hf)
  have hL8 : ∀ (K24 : Int32 → Option (ZMem)), (∀ (v30 : Int32), K24 v30 = some M' → ZW E 24 [(0, .ref (zad E 77)), (1, .int a1), (2, .int v30)] [] M23) → ∀ (n8 : Nat), ∀ (v29 : Int32), zf_X10_spellsNumber_L8 a1 K24 n8 v29 = some M' → ZW E 8 [(0, .ref (zad E 77)), (1, .int a1), (2, .int v29)] [] M23 := by
    intro K24 hK24
    intro n8
    induction n8 with
    | zero => intro v29 hf; rw [zf_X10_spellsNumber_L8] at hf; cases hf
    | succ n8 ih8 =>
      intro v29 hf
      rw [zf_X10_spellsNumber_L8] at hf
      refine zw_iload_n hC dX10_spellsNumber_8 rfl 2 rfl ?_
      refine zw_iload_n hC dX10_spellsNumber_9 rfl 1 rfl ?_
      refine zw_bipush hC (v := (10 : Int32)) dX10_spellsNumber_10 (by decide) ?_
      refine zw_idivc hC dX10_spellsNumber_12 (by decide) ?_
      refine zw_icmp_gt hC 24 hf dX10_spellsNumber_13 (by decide) (fun hf => ?_) (fun hf => ?_)
      · exact hK24 v29 hf
      · refine zw_iload_n hC dX10_spellsNumber_16 rfl 2 rfl ?_
        refine zw_bipush hC (v := (10 : Int32)) dX10_spellsNumber_17 (by decide) ?_
        refine zw_imul hC dX10_spellsNumber_19 ?_
        refine zw_istore_n hC (lv' := [(2, .int (v29 * (10 : Int32))), (0, .ref (zad E 77)), (1, .int a1)]) dX10_spellsNumber_20 rfl hN (by decide) rfl ?_
        refine zw_goto hC 8 dX10_spellsNumber_21 (by decide) ?_
        exact zw_sub [1, 2, 0] rfl (ih8 (v29 * (10 : Int32)) hf)
  refine zw_sub [1, 2, 0] rfl (hL8 _ ?_ n (1 : Int32) hf)
  · intro v31 hf
    refine hL24 _ ?_ n v31 M23 hf
    · intro M32 hf
      have h1 := Option.some.inj hf
      subst h1
      exact zw_vret hC hR dX10_spellsNumber_49
/-! ClassOfManyModel.spellsOne(JI)V -/
theorem dX10_spellsOne_0 : decode cX10_spellsOne 0 = .ok (.aload_n 0, 1) := by decide +kernel
theorem dX10_spellsOne_1 : decode cX10_spellsOne 1 = .ok (.lload_n 1, 1) := by decide +kernel
theorem dX10_spellsOne_2 : decode cX10_spellsOne 2 = .ok (.invokevirtual 351, 3) := by decide +kernel
theorem dX10_spellsOne_5 : decode cX10_spellsOne 5 = .ok (.aload_n 0, 1) := by decide +kernel
theorem dX10_spellsOne_6 : decode cX10_spellsOne 6 = .ok (.iload_n 3, 1) := by decide +kernel
theorem dX10_spellsOne_7 : decode cX10_spellsOne 7 = .ok (.invokevirtual 355, 3) := by decide +kernel
theorem dX10_spellsOne_10 : decode cX10_spellsOne 10 = .ok (.aload_n 0, 1) := by decide +kernel
theorem dX10_spellsOne_11 : decode cX10_spellsOne 11 = .ok (.bipush 59, 2) := by decide +kernel
theorem dX10_spellsOne_13 : decode cX10_spellsOne 13 = .ok (.invokevirtual 348, 3) := by decide +kernel
theorem dX10_spellsOne_16 : decode cX10_spellsOne 16 = .ok (.return_, 1) := by decide +kernel
theorem zm_X10_spellsOne : ZMv "ClassOfManyModel" yX10_spellsOne cX10_spellsOne 4 (none) 2 := ⟨kw_8_75, kw_8_74, kp_114, kw_1_10, by decide +kernel, by decide⟩
def zf_X10_spellsOne (n : Nat) (w901 : Int64) (a3 : Int32) (M : ZMem) : Option (ZMem) :=
  zb1 (zf_X10_spells n w901 M) (fun M24 => zb1 (zf_X10_spellsNumber n a3 M24) (fun M25 => zb1 (zf_X10_spellsByte (59 : Int32) M25) (fun M26 => some M26)))
set_option maxHeartbeats 4000000 in
set_option maxRecDepth 100000 in
theorem zc_X10_spellsOne {l : Launch} {D : va_G} {ad : Nat → Nat} {cA : Nat → ClassId} {n : Nat} {w901 : Int64} {a3 : Int32} {M : ZMem} {M' : ZMem} (hf : zf_X10_spellsOne n w901 a3 M = some M') : ZCt l D ad cA yX10_spellsOne cX10_spellsOne 4 (none) 3 [.ref (ad 77), .long w901, .int a3] M none M' := by
  refine zct (by decide +kernel) (Nat.le_of_ble_eq_true rfl) (lv := [(0, .ref (ad 77)), (1, .long w901), (3, .int a3)]) rfl (fun E hl hD had hcA hN hC hR => ?_)
  subst hl; subst hD; subst had; subst hcA
  unfold zf_X10_spellsOne at hf
  refine zw_aload_n hC dX10_spellsOne_0 rfl 0 rfl ?_
  refine zw_lload_n hC dX10_spellsOne_1 rfl 1 rfl ?_
  obtain ⟨M24, hcM24, hf⟩ := zb1_some hf
  refine zw_cV hC [.long w901] [] (st1 := []) zm_X10_spells (zc_X10_spells hcM24) zk_77 rfl kw_8_76 dX10_spellsOne_2 rfl (by decide) (Nat.le_of_ble_eq_true rfl) rfl rfl ?_
  refine zw_aload_n hC dX10_spellsOne_5 rfl 0 rfl ?_
  refine zw_iload_n hC dX10_spellsOne_6 rfl 2 rfl ?_
  obtain ⟨M25, hcM25, hf⟩ := zb1_some hf
  refine zw_cV hC [.int a3] [] (st1 := []) zm_X10_spellsNumber (zc_X10_spellsNumber hcM25) zk_77 rfl kw_8_84 dX10_spellsOne_7 rfl (by decide) (Nat.le_of_ble_eq_true rfl) rfl rfl ?_
  refine zw_aload_n hC dX10_spellsOne_10 rfl 0 rfl ?_
  refine zw_bipush hC (v := (59 : Int32)) dX10_spellsOne_11 (by decide) ?_
  obtain ⟨M26, hcM26, hf⟩ := zb1_some hf
  refine zw_cV hC [.int (59 : Int32)] [] (st1 := []) zm_X10_spellsByte (zc_X10_spellsByte hcM26) zk_77 rfl kw_8_80 dX10_spellsOne_13 rfl (by decide) (Nat.le_of_ble_eq_true rfl) rfl rfl ?_
  have h1 := Option.some.inj hf
  subst h1
  exact zw_vret hC hR dX10_spellsOne_16
/-! ClassOfManyModel.spellsTwo(JII)V -/
theorem dX10_spellsTwo_0 : decode cX10_spellsTwo 0 = .ok (.aload_n 0, 1) := by decide +kernel
theorem dX10_spellsTwo_1 : decode cX10_spellsTwo 1 = .ok (.lload_n 1, 1) := by decide +kernel
theorem dX10_spellsTwo_2 : decode cX10_spellsTwo 2 = .ok (.invokevirtual 351, 3) := by decide +kernel
theorem dX10_spellsTwo_5 : decode cX10_spellsTwo 5 = .ok (.aload_n 0, 1) := by decide +kernel
theorem dX10_spellsTwo_6 : decode cX10_spellsTwo 6 = .ok (.iload_n 3, 1) := by decide +kernel
theorem dX10_spellsTwo_7 : decode cX10_spellsTwo 7 = .ok (.invokevirtual 355, 3) := by decide +kernel
theorem dX10_spellsTwo_10 : decode cX10_spellsTwo 10 = .ok (.aload_n 0, 1) := by decide +kernel
theorem dX10_spellsTwo_11 : decode cX10_spellsTwo 11 = .ok (.iload 4, 2) := by decide +kernel
theorem dX10_spellsTwo_13 : decode cX10_spellsTwo 13 = .ok (.invokevirtual 355, 3) := by decide +kernel
theorem dX10_spellsTwo_16 : decode cX10_spellsTwo 16 = .ok (.aload_n 0, 1) := by decide +kernel
theorem dX10_spellsTwo_17 : decode cX10_spellsTwo 17 = .ok (.bipush 59, 2) := by decide +kernel
theorem dX10_spellsTwo_19 : decode cX10_spellsTwo 19 = .ok (.invokevirtual 348, 3) := by decide +kernel
theorem dX10_spellsTwo_22 : decode cX10_spellsTwo 22 = .ok (.return_, 1) := by decide +kernel
theorem zm_X10_spellsTwo : ZMv "ClassOfManyModel" yX10_spellsTwo cX10_spellsTwo 5 (none) 3 := ⟨kw_8_91, kw_8_90, kp_118, kw_1_10, by decide +kernel, by decide⟩
def zf_X10_spellsTwo (n : Nat) (w901 : Int64) (a3 : Int32) (a4 : Int32) (M : ZMem) : Option (ZMem) :=
  zb1 (zf_X10_spells n w901 M) (fun M25 => zb1 (zf_X10_spellsNumber n a3 M25) (fun M26 => zb1 (zf_X10_spellsNumber n a4 M26) (fun M27 => zb1 (zf_X10_spellsByte (59 : Int32) M27) (fun M28 => some M28))))
set_option maxHeartbeats 4000000 in
set_option maxRecDepth 100000 in
theorem zc_X10_spellsTwo {l : Launch} {D : va_G} {ad : Nat → Nat} {cA : Nat → ClassId} {n : Nat} {w901 : Int64} {a3 : Int32} {a4 : Int32} {M : ZMem} {M' : ZMem} (hf : zf_X10_spellsTwo n w901 a3 a4 M = some M') : ZCt l D ad cA yX10_spellsTwo cX10_spellsTwo 5 (none) 3 [.ref (ad 77), .long w901, .int a3, .int a4] M none M' := by
  refine zct (by decide +kernel) (Nat.le_of_ble_eq_true rfl) (lv := [(0, .ref (ad 77)), (1, .long w901), (3, .int a3), (4, .int a4)]) rfl (fun E hl hD had hcA hN hC hR => ?_)
  subst hl; subst hD; subst had; subst hcA
  unfold zf_X10_spellsTwo at hf
  refine zw_aload_n hC dX10_spellsTwo_0 rfl 0 rfl ?_
  refine zw_lload_n hC dX10_spellsTwo_1 rfl 1 rfl ?_
  obtain ⟨M25, hcM25, hf⟩ := zb1_some hf
  refine zw_cV hC [.long w901] [] (st1 := []) zm_X10_spells (zc_X10_spells hcM25) zk_77 rfl kw_8_76 dX10_spellsTwo_2 rfl (by decide) (Nat.le_of_ble_eq_true rfl) rfl rfl ?_
  refine zw_aload_n hC dX10_spellsTwo_5 rfl 0 rfl ?_
  refine zw_iload_n hC dX10_spellsTwo_6 rfl 2 rfl ?_
  obtain ⟨M26, hcM26, hf⟩ := zb1_some hf
  refine zw_cV hC [.int a3] [] (st1 := []) zm_X10_spellsNumber (zc_X10_spellsNumber hcM26) zk_77 rfl kw_8_84 dX10_spellsTwo_7 rfl (by decide) (Nat.le_of_ble_eq_true rfl) rfl rfl ?_
  refine zw_aload_n hC dX10_spellsTwo_10 rfl 0 rfl ?_
  refine zw_iload hC dX10_spellsTwo_11 3 rfl ?_
  obtain ⟨M27, hcM27, hf⟩ := zb1_some hf
  refine zw_cV hC [.int a4] [] (st1 := []) zm_X10_spellsNumber (zc_X10_spellsNumber hcM27) zk_77 rfl kw_8_84 dX10_spellsTwo_13 rfl (by decide) (Nat.le_of_ble_eq_true rfl) rfl rfl ?_
  refine zw_aload_n hC dX10_spellsTwo_16 rfl 0 rfl ?_
  refine zw_bipush hC (v := (59 : Int32)) dX10_spellsTwo_17 (by decide) ?_
  obtain ⟨M28, hcM28, hf⟩ := zb1_some hf
  refine zw_cV hC [.int (59 : Int32)] [] (st1 := []) zm_X10_spellsByte (zc_X10_spellsByte hcM28) zk_77 rfl kw_8_80 dX10_spellsTwo_19 rfl (by decide) (Nat.le_of_ble_eq_true rfl) rfl rfl ?_
  have h1 := Option.some.inj hf
  subst h1
  exact zw_vret hC hR dX10_spellsTwo_22
/-! ClassOfManyModel.spelled(I)I -/
theorem dX10_spelled_0 : decode cX10_spelled 0 = .ok (.iload_n 1, 1) := by decide +kernel
theorem dX10_spelled_1 : decode cX10_spelled 1 = .ok (.iconst (-1), 1) := by decide +kernel
theorem dX10_spelled_2 : decode cX10_spelled 2 = .ok (.if_icmp .ne 10, 3) := by decide +kernel
theorem dX10_spelled_5 : decode cX10_spelled 5 = .ok (.aload_n 0, 1) := by decide +kernel
theorem dX10_spelled_6 : decode cX10_spelled 6 = .ok (.getfield 345, 3) := by decide +kernel
theorem dX10_spelled_9 : decode cX10_spelled 9 = .ok (.goto 22, 3) := by decide +kernel
theorem dX10_spelled_12 : decode cX10_spelled 12 = .ok (.iload_n 1, 1) := by decide +kernel
theorem dX10_spelled_13 : decode cX10_spelled 13 = .ok (.aload_n 0, 1) := by decide +kernel
theorem dX10_spelled_14 : decode cX10_spelled 14 = .ok (.getfield 345, 3) := by decide +kernel
theorem dX10_spelled_17 : decode cX10_spelled 17 = .ok (.if_icmp .ge 12, 3) := by decide +kernel
theorem dX10_spelled_20 : decode cX10_spelled 20 = .ok (.aload_n 0, 1) := by decide +kernel
theorem dX10_spelled_21 : decode cX10_spelled 21 = .ok (.getfield 55, 3) := by decide +kernel
theorem dX10_spelled_24 : decode cX10_spelled 24 = .ok (.iload_n 1, 1) := by decide +kernel
theorem dX10_spelled_25 : decode cX10_spelled 25 = .ok (.iaload, 1) := by decide +kernel
theorem dX10_spelled_26 : decode cX10_spelled 26 = .ok (.goto 5, 3) := by decide +kernel
theorem dX10_spelled_29 : decode cX10_spelled 29 = .ok (.bipush (-2), 2) := by decide +kernel
theorem dX10_spelled_31 : decode cX10_spelled 31 = .ok (.ireturn, 1) := by decide +kernel
theorem zm_X10_spelled : ZMv "ClassOfManyModel" yX10_spelled cX10_spelled 2 (some .int) 1 := ⟨kw_8_99, kw_8_98, kp_120, kw_1_10, by decide +kernel, by decide⟩
def zf_X10_spelled_j31 (v22 : Int32) : Option (Int32) :=
  some v22
def zf_X10_spelled (a1 : Int32) (M : ZMem) : Option (Int32) :=
  (if a1 = (-1 : Int32) then (zf_X10_spelled_j31 (M 77 36)) else (if (M 77 36) ≤ a1 then (zf_X10_spelled_j31 (-2 : Int32)) else zrd M 93 2000 a1 (fun v23 => (zf_X10_spelled_j31 v23))))
set_option maxHeartbeats 4000000 in
set_option maxRecDepth 100000 in
theorem zc_X10_spelled {l : Launch} {D : va_G} {ad : Nat → Nat} {cA : Nat → ClassId} {a1 : Int32} {M : ZMem} {r : Int32} (hf : zf_X10_spelled a1 M = some r) : ZCt l D ad cA yX10_spelled cX10_spelled 2 (some .int) 1 [.ref (ad 77), .int a1] M (some (.int r)) M := by
  refine zct (by decide +kernel) (Nat.le_of_ble_eq_true rfl) (lv := [(0, .ref (ad 77)), (1, .int a1)]) rfl (fun E hl hD had hcA hN hC hR => ?_)
  subst hl; subst hD; subst had; subst hcA
  unfold zf_X10_spelled at hf
  refine zw_iload_n hC dX10_spelled_0 rfl 1 rfl ?_
  refine zw_iconst hC (v := (-1 : Int32)) dX10_spelled_1 (by decide) ?_
  have hj31 : ∀ (v22 : Int32), zf_X10_spelled_j31 v22 = some r → ZW E 31 [] [.int v22] M := by
    intro v22 hf
    unfold zf_X10_spelled_j31 at hf
    have h1 := Option.some.inj hf
    subst h1
    exact zw_iret hC hR dX10_spelled_31
  refine zw_icmp_ne hC 12 hf dX10_spelled_2 (by decide) (fun hf => ?_) (fun hf => ?_)
  · refine zw_iload_n hC dX10_spelled_12 rfl 1 rfl ?_
    refine zw_aload_n hC dX10_spelled_13 rfl 0 rfl ?_
    refine zw_geti hC zF_Model_speltMany zk_77 dX10_spelled_14 kw_6_22 ?_
    refine zw_icmp_ge hC 29 hf dX10_spelled_17 (by decide) (fun hf => ?_) (fun hf => ?_)
    · refine zw_bipush hC (v := (-2 : Int32)) dX10_spelled_29 (by decide) ?_
      exact zw_sub [] rfl (hj31 (-2 : Int32) hf)
    · refine zw_aload_n hC dX10_spelled_20 rfl 0 rfl ?_
      refine zw_getr (k' := 93) hC zF_Model_spelt zk_77 rfl dX10_spelled_21 kw_6_21 ?_
      refine zw_iload_n hC dX10_spelled_24 rfl 1 rfl ?_
      refine zw_iald hC hf zk_93 dX10_spelled_25 (fun v23 hf => ?_)
      refine zw_goto hC 31 dX10_spelled_26 (by decide) ?_
      exact zw_sub [] rfl (hj31 v23 hf)
  · refine zw_aload_n hC dX10_spelled_5 rfl 0 rfl ?_
    refine zw_geti hC zF_Model_speltMany zk_77 dX10_spelled_6 kw_6_22 ?_
    refine zw_goto hC 31 dX10_spelled_9 (by decide) ?_
    exact zw_sub [] rfl (hj31 (M 77 36) hf)
/-! ClassOfManyModel.spellsMember(I)V -/
theorem dX10_spellsMember_0 : decode cX10_spellsMember 0 = .ok (.aload_n 0, 1) := by decide +kernel
theorem dX10_spellsMember_1 : decode cX10_spellsMember 1 = .ok (.ldc2_w 168, 3) := by decide +kernel
theorem dX10_spellsMember_4 : decode cX10_spellsMember 4 = .ok (.invokevirtual 351, 3) := by decide +kernel
theorem dX10_spellsMember_7 : decode cX10_spellsMember 7 = .ok (.aload_n 0, 1) := by decide +kernel
theorem dX10_spellsMember_8 : decode cX10_spellsMember 8 = .ok (.aload_n 0, 1) := by decide +kernel
theorem dX10_spellsMember_9 : decode cX10_spellsMember 9 = .ok (.getfield 7, 3) := by decide +kernel
theorem dX10_spellsMember_12 : decode cX10_spellsMember 12 = .ok (.bipush 15, 2) := by decide +kernel
theorem dX10_spellsMember_14 : decode cX10_spellsMember 14 = .ok (.iload_n 1, 1) := by decide +kernel
theorem dX10_spellsMember_15 : decode cX10_spellsMember 15 = .ok (.iadd, 1) := by decide +kernel
theorem dX10_spellsMember_16 : decode cX10_spellsMember 16 = .ok (.iaload, 1) := by decide +kernel
theorem dX10_spellsMember_17 : decode cX10_spellsMember 17 = .ok (.invokevirtual 355, 3) := by decide +kernel
theorem dX10_spellsMember_20 : decode cX10_spellsMember 20 = .ok (.aload_n 0, 1) := by decide +kernel
theorem dX10_spellsMember_21 : decode cX10_spellsMember 21 = .ok (.aload_n 0, 1) := by decide +kernel
theorem dX10_spellsMember_22 : decode cX10_spellsMember 22 = .ok (.getfield 7, 3) := by decide +kernel
theorem dX10_spellsMember_25 : decode cX10_spellsMember 25 = .ok (.bipush 25, 2) := by decide +kernel
theorem dX10_spellsMember_27 : decode cX10_spellsMember 27 = .ok (.iload_n 1, 1) := by decide +kernel
theorem dX10_spellsMember_28 : decode cX10_spellsMember 28 = .ok (.iadd, 1) := by decide +kernel
theorem dX10_spellsMember_29 : decode cX10_spellsMember 29 = .ok (.iaload, 1) := by decide +kernel
theorem dX10_spellsMember_30 : decode cX10_spellsMember 30 = .ok (.invokevirtual 355, 3) := by decide +kernel
theorem dX10_spellsMember_33 : decode cX10_spellsMember 33 = .ok (.aload_n 0, 1) := by decide +kernel
theorem dX10_spellsMember_34 : decode cX10_spellsMember 34 = .ok (.aload_n 0, 1) := by decide +kernel
theorem dX10_spellsMember_35 : decode cX10_spellsMember 35 = .ok (.getfield 7, 3) := by decide +kernel
theorem dX10_spellsMember_38 : decode cX10_spellsMember 38 = .ok (.bipush 35, 2) := by decide +kernel
theorem dX10_spellsMember_40 : decode cX10_spellsMember 40 = .ok (.iload_n 1, 1) := by decide +kernel
theorem dX10_spellsMember_41 : decode cX10_spellsMember 41 = .ok (.iadd, 1) := by decide +kernel
theorem dX10_spellsMember_42 : decode cX10_spellsMember 42 = .ok (.iaload, 1) := by decide +kernel
theorem dX10_spellsMember_43 : decode cX10_spellsMember 43 = .ok (.invokevirtual 355, 3) := by decide +kernel
theorem dX10_spellsMember_46 : decode cX10_spellsMember 46 = .ok (.aload_n 0, 1) := by decide +kernel
theorem dX10_spellsMember_47 : decode cX10_spellsMember 47 = .ok (.getfield 7, 3) := by decide +kernel
theorem dX10_spellsMember_50 : decode cX10_spellsMember 50 = .ok (.bipush 45, 2) := by decide +kernel
theorem dX10_spellsMember_52 : decode cX10_spellsMember 52 = .ok (.iload_n 1, 1) := by decide +kernel
theorem dX10_spellsMember_53 : decode cX10_spellsMember 53 = .ok (.iadd, 1) := by decide +kernel
theorem dX10_spellsMember_54 : decode cX10_spellsMember 54 = .ok (.iaload, 1) := by decide +kernel
theorem dX10_spellsMember_55 : decode cX10_spellsMember 55 = .ok (.ifCond .eq 16, 3) := by decide +kernel
theorem dX10_spellsMember_58 : decode cX10_spellsMember 58 = .ok (.aload_n 0, 1) := by decide +kernel
theorem dX10_spellsMember_59 : decode cX10_spellsMember 59 = .ok (.bipush 32, 2) := by decide +kernel
theorem dX10_spellsMember_61 : decode cX10_spellsMember 61 = .ok (.invokevirtual 348, 3) := by decide +kernel
theorem dX10_spellsMember_64 : decode cX10_spellsMember 64 = .ok (.aload_n 0, 1) := by decide +kernel
theorem dX10_spellsMember_65 : decode cX10_spellsMember 65 = .ok (.ldc2_w 129, 3) := by decide +kernel
theorem dX10_spellsMember_68 : decode cX10_spellsMember 68 = .ok (.invokevirtual 351, 3) := by decide +kernel
theorem dX10_spellsMember_71 : decode cX10_spellsMember 71 = .ok (.iconst 0, 1) := by decide +kernel
theorem dX10_spellsMember_72 : decode cX10_spellsMember 72 = .ok (.istore_n 2, 1) := by decide +kernel
theorem dX10_spellsMember_73 : decode cX10_spellsMember 73 = .ok (.iload_n 2, 1) := by decide +kernel
theorem dX10_spellsMember_74 : decode cX10_spellsMember 74 = .ok (.aload_n 0, 1) := by decide +kernel
theorem dX10_spellsMember_75 : decode cX10_spellsMember 75 = .ok (.getfield 7, 3) := by decide +kernel
theorem dX10_spellsMember_78 : decode cX10_spellsMember 78 = .ok (.iconst 1, 1) := by decide +kernel
theorem dX10_spellsMember_79 : decode cX10_spellsMember 79 = .ok (.iaload, 1) := by decide +kernel
theorem dX10_spellsMember_80 : decode cX10_spellsMember 80 = .ok (.if_icmp .ge 30, 3) := by decide +kernel
theorem dX10_spellsMember_83 : decode cX10_spellsMember 83 = .ok (.aload_n 0, 1) := by decide +kernel
theorem dX10_spellsMember_84 : decode cX10_spellsMember 84 = .ok (.getfield 7, 3) := by decide +kernel
theorem dX10_spellsMember_87 : decode cX10_spellsMember 87 = .ok (.bipush 45, 2) := by decide +kernel
theorem dX10_spellsMember_89 : decode cX10_spellsMember 89 = .ok (.iload_n 1, 1) := by decide +kernel
theorem dX10_spellsMember_90 : decode cX10_spellsMember 90 = .ok (.iadd, 1) := by decide +kernel
theorem dX10_spellsMember_91 : decode cX10_spellsMember 91 = .ok (.iaload, 1) := by decide +kernel
theorem dX10_spellsMember_92 : decode cX10_spellsMember 92 = .ok (.iload_n 2, 1) := by decide +kernel
theorem dX10_spellsMember_93 : decode cX10_spellsMember 93 = .ok (.invokestatic 118, 3) := by decide +kernel
theorem dX10_spellsMember_96 : decode cX10_spellsMember 96 = .ok (.ifCond .eq 8, 3) := by decide +kernel
theorem dX10_spellsMember_99 : decode cX10_spellsMember 99 = .ok (.aload_n 0, 1) := by decide +kernel
theorem dX10_spellsMember_100 : decode cX10_spellsMember 100 = .ok (.iload_n 2, 1) := by decide +kernel
theorem dX10_spellsMember_101 : decode cX10_spellsMember 101 = .ok (.invokevirtual 355, 3) := by decide +kernel
theorem dX10_spellsMember_104 : decode cX10_spellsMember 104 = .ok (.iinc 2 1, 3) := by decide +kernel
theorem dX10_spellsMember_107 : decode cX10_spellsMember 107 = .ok (.goto (-34), 3) := by decide +kernel
theorem dX10_spellsMember_110 : decode cX10_spellsMember 110 = .ok (.aload_n 0, 1) := by decide +kernel
theorem dX10_spellsMember_111 : decode cX10_spellsMember 111 = .ok (.bipush 59, 2) := by decide +kernel
theorem dX10_spellsMember_113 : decode cX10_spellsMember 113 = .ok (.invokevirtual 348, 3) := by decide +kernel
theorem dX10_spellsMember_116 : decode cX10_spellsMember 116 = .ok (.return_, 1) := by decide +kernel
theorem zm_X10_spellsMember : ZMv "ClassOfManyModel" yX10_spellsMember cX10_spellsMember 3 (none) 1 := ⟨kw_8_95, kw_8_94, kp_119, kw_1_10, by decide +kernel, by decide⟩
def zf_X10_spellsMember_j104 (R73 : Int32 → ZMem → Option (ZMem)) (v45 : Int32) (M51 : ZMem) : Option (ZMem) :=
  (R73 (v45 + (1 : Int32)) M51)
def zf_X10_spellsMember_L73 (a1 : Int32) (n : Nat) (K110 : ZMem → Option (ZMem)) : Nat → Int32 → ZMem → Option (ZMem)
  | 0, _, _ => none
  | n73 + 1, v45, M46 =>
  zrd M46 78 73 (1 : Int32) (fun v48 => (if v48 ≤ v45 then (K110 M46) else zrd M46 78 73 ((45 : Int32) + a1) (fun v49 => zb1 (zf_X10_has v49 v45) (fun v50 => (if v50 = 0 then (zf_X10_spellsMember_j104 (fun x0 x1 => zf_X10_spellsMember_L73 a1 n K110 n73 x0 x1) v45 M46) else zb1 (zf_X10_spellsNumber n v45 M46) (fun M52 => (zf_X10_spellsMember_j104 (fun x0 x1 => zf_X10_spellsMember_L73 a1 n K110 n73 x0 x1) v45 M52)))))))
def zf_X10_spellsMember_j71 (a1 : Int32) (n : Nat) (M44 : ZMem) : Option (ZMem) :=
  (zf_X10_spellsMember_L73 a1 n (fun M53 => zb1 (zf_X10_spellsByte (59 : Int32) M53) (fun M54 => some M54)) n (0 : Int32) M44)
def zf_X10_spellsMember (n : Nat) (a1 : Int32) (M : ZMem) : Option (ZMem) :=
  zb1 (zf_X10_spells n (189450486 : Int64) M) (fun M36 => zrd M36 78 73 ((15 : Int32) + a1) (fun v37 => zb1 (zf_X10_spellsNumber n v37 M36) (fun M38 => zrd M38 78 73 ((25 : Int32) + a1) (fun v39 => zb1 (zf_X10_spellsNumber n v39 M38) (fun M40 => zrd M40 78 73 ((35 : Int32) + a1) (fun v41 => zb1 (zf_X10_spellsNumber n v41 M40) (fun M42 => zrd M42 78 73 ((45 : Int32) + a1) (fun v43 => (if v43 = 0 then (zf_X10_spellsMember_j71 a1 n M42) else zb1 (zf_X10_spellsByte (32 : Int32) M42) (fun M55 => zb1 (zf_X10_spells n (79 : Int64) M55) (fun M56 => (zf_X10_spellsMember_j71 a1 n M56))))))))))))
set_option maxHeartbeats 4000000 in
set_option maxRecDepth 100000 in
theorem zc_X10_spellsMember {l : Launch} {D : va_G} {ad : Nat → Nat} {cA : Nat → ClassId} {n : Nat} {a1 : Int32} {M : ZMem} {M' : ZMem} (hf : zf_X10_spellsMember n a1 M = some M') : ZCt l D ad cA yX10_spellsMember cX10_spellsMember 3 (none) 3 [.ref (ad 77), .int a1] M none M' := by
  refine zct (by decide +kernel) (Nat.le_of_ble_eq_true rfl) (lv := [(0, .ref (ad 77)), (1, .int a1)]) rfl (fun E hl hD had hcA hN hC hR => ?_)
  subst hl; subst hD; subst had; subst hcA
  unfold zf_X10_spellsMember at hf
  refine zw_aload_n hC dX10_spellsMember_0 rfl 0 rfl ?_
  refine zw_ldc2 hC dX10_spellsMember_1 kw_6_182 ?_
  obtain ⟨M36, hcM36, hf⟩ := zb1_some hf
  refine zw_cV hC [.long (189450486 : Int64)] [] (st1 := []) zm_X10_spells (zc_X10_spells hcM36) zk_77 rfl kw_8_76 dX10_spellsMember_4 rfl (by decide) (Nat.le_of_ble_eq_true rfl) rfl rfl ?_
  refine zw_aload_n hC dX10_spellsMember_7 rfl 0 rfl ?_
  refine zw_aload_n hC dX10_spellsMember_8 rfl 0 rfl ?_
  refine zw_getr (k' := 78) hC zF_Model_now zk_77 rfl dX10_spellsMember_9 kw_5_227 ?_
  refine zw_bipush hC (v := (15 : Int32)) dX10_spellsMember_12 (by decide) ?_
  refine zw_iload_n hC dX10_spellsMember_14 rfl 1 rfl ?_
  refine zw_iadd hC dX10_spellsMember_15 ?_
  refine zw_iald hC hf zk_78 dX10_spellsMember_16 (fun v37 hf => ?_)
  obtain ⟨M38, hcM38, hf⟩ := zb1_some hf
  refine zw_cV hC [.int v37] [] (st1 := []) zm_X10_spellsNumber (zc_X10_spellsNumber hcM38) zk_77 rfl kw_8_84 dX10_spellsMember_17 rfl (by decide) (Nat.le_of_ble_eq_true rfl) rfl rfl ?_
  refine zw_aload_n hC dX10_spellsMember_20 rfl 0 rfl ?_
  refine zw_aload_n hC dX10_spellsMember_21 rfl 0 rfl ?_
  refine zw_getr (k' := 78) hC zF_Model_now zk_77 rfl dX10_spellsMember_22 kw_5_227 ?_
  refine zw_bipush hC (v := (25 : Int32)) dX10_spellsMember_25 (by decide) ?_
  refine zw_iload_n hC dX10_spellsMember_27 rfl 1 rfl ?_
  refine zw_iadd hC dX10_spellsMember_28 ?_
  refine zw_iald hC hf zk_78 dX10_spellsMember_29 (fun v39 hf => ?_)
  obtain ⟨M40, hcM40, hf⟩ := zb1_some hf
  refine zw_cV hC [.int v39] [] (st1 := []) zm_X10_spellsNumber (zc_X10_spellsNumber hcM40) zk_77 rfl kw_8_84 dX10_spellsMember_30 rfl (by decide) (Nat.le_of_ble_eq_true rfl) rfl rfl ?_
  refine zw_aload_n hC dX10_spellsMember_33 rfl 0 rfl ?_
  refine zw_aload_n hC dX10_spellsMember_34 rfl 0 rfl ?_
  refine zw_getr (k' := 78) hC zF_Model_now zk_77 rfl dX10_spellsMember_35 kw_5_227 ?_
  refine zw_bipush hC (v := (35 : Int32)) dX10_spellsMember_38 (by decide) ?_
  refine zw_iload_n hC dX10_spellsMember_40 rfl 1 rfl ?_
  refine zw_iadd hC dX10_spellsMember_41 ?_
  refine zw_iald hC hf zk_78 dX10_spellsMember_42 (fun v41 hf => ?_)
  obtain ⟨M42, hcM42, hf⟩ := zb1_some hf
  refine zw_cV hC [.int v41] [] (st1 := []) zm_X10_spellsNumber (zc_X10_spellsNumber hcM42) zk_77 rfl kw_8_84 dX10_spellsMember_43 rfl (by decide) (Nat.le_of_ble_eq_true rfl) rfl rfl ?_
  refine zw_aload_n hC dX10_spellsMember_46 rfl 0 rfl ?_
  refine zw_getr (k' := 78) hC zF_Model_now zk_77 rfl dX10_spellsMember_47 kw_5_227 ?_
  refine zw_bipush hC (v := (45 : Int32)) dX10_spellsMember_50 (by decide) ?_
  refine zw_iload_n hC dX10_spellsMember_52 rfl 1 rfl ?_
  refine zw_iadd hC dX10_spellsMember_53 ?_
  refine zw_iald hC hf zk_78 dX10_spellsMember_54 (fun v43 hf => ?_)
  have hj71 : ∀ (M44 : ZMem), zf_X10_spellsMember_j71 a1 n M44 = some M' → ZW E 71 [(0, .ref (zad E 77)), (1, .int a1)] [] M44 := by
    intro M44 hf
    unfold zf_X10_spellsMember_j71 at hf
    refine zw_iconst hC (v := (0 : Int32)) dX10_spellsMember_71 (by decide) ?_
    refine zw_istore_n hC (lv' := [(2, .int (0 : Int32)), (0, .ref (zad E 77)), (1, .int a1)]) dX10_spellsMember_72 rfl hN (by decide) rfl ?_
    have hL73 : ∀ (K110 : ZMem → Option (ZMem)), (∀ (M47 : ZMem), K110 M47 = some M' → ZW E 110 [(0, .ref (zad E 77))] [] M47) → ∀ (n73 : Nat), ∀ (v45 : Int32), ∀ (M46 : ZMem), zf_X10_spellsMember_L73 a1 n K110 n73 v45 M46 = some M' → ZW E 73 [(0, .ref (zad E 77)), (1, .int a1), (2, .int v45)] [] M46 := by
      intro K110 hK110
      intro n73
      induction n73 with
      | zero => intro v45 M46 hf; rw [zf_X10_spellsMember_L73] at hf; cases hf
      | succ n73 ih73 =>
        intro v45 M46 hf
        rw [zf_X10_spellsMember_L73] at hf
        refine zw_iload_n hC dX10_spellsMember_73 rfl 2 rfl ?_
        refine zw_aload_n hC dX10_spellsMember_74 rfl 0 rfl ?_
        refine zw_getr (k' := 78) hC zF_Model_now zk_77 rfl dX10_spellsMember_75 kw_5_227 ?_
        refine zw_iconst hC (v := (1 : Int32)) dX10_spellsMember_78 (by decide) ?_
        refine zw_iald hC hf zk_78 dX10_spellsMember_79 (fun v48 hf => ?_)
        refine zw_icmp_ge hC 110 hf dX10_spellsMember_80 (by decide) (fun hf => ?_) (fun hf => ?_)
        · exact zw_sub [0] rfl (hK110 M46 hf)
        · refine zw_aload_n hC dX10_spellsMember_83 rfl 0 rfl ?_
          refine zw_getr (k' := 78) hC zF_Model_now zk_77 rfl dX10_spellsMember_84 kw_5_227 ?_
          refine zw_bipush hC (v := (45 : Int32)) dX10_spellsMember_87 (by decide) ?_
          refine zw_iload_n hC dX10_spellsMember_89 rfl 1 rfl ?_
          refine zw_iadd hC dX10_spellsMember_90 ?_
          refine zw_iald hC hf zk_78 dX10_spellsMember_91 (fun v49 hf => ?_)
          refine zw_iload_n hC dX10_spellsMember_92 rfl 2 rfl ?_
          obtain ⟨v50, hc50, hf⟩ := zb1_some hf
          refine zw_cS hC [.int v49, .int v45] [] (st1 := [.int v50]) zm_X10_has (zc_X10_has hc50) kw_6_150 dX10_spellsMember_93 rfl (by decide) (Nat.le_of_ble_eq_true rfl) rfl rfl ?_
          have hj104 : ∀ (M51 : ZMem), zf_X10_spellsMember_j104 (fun x0 x1 => zf_X10_spellsMember_L73 a1 n K110 n73 x0 x1) v45 M51 = some M' → ZW E 104 [(0, .ref (zad E 77)), (1, .int a1), (2, .int v45)] [] M51 := by
            intro M51 hf
            unfold zf_X10_spellsMember_j104 at hf
            refine zw_iinc hC (v := (1 : Int32)) (lv' := [(2, .int (v45 + (1 : Int32))), (0, .ref (zad E 77)), (1, .int a1)]) dX10_spellsMember_104 2 rfl (by decide) hN (by decide) rfl ?_
            refine zw_goto hC 73 dX10_spellsMember_107 (by decide) ?_
            exact zw_sub [1, 2, 0] rfl (ih73 (v45 + (1 : Int32)) M51 hf)
          refine zw_if_eq hC 104 hf dX10_spellsMember_96 (by decide) (fun hf => ?_) (fun hf => ?_)
          · exact hj104 M46 hf
          · refine zw_aload_n hC dX10_spellsMember_99 rfl 0 rfl ?_
            refine zw_iload_n hC dX10_spellsMember_100 rfl 2 rfl ?_
            obtain ⟨M52, hcM52, hf⟩ := zb1_some hf
            refine zw_cV hC [.int v45] [] (st1 := []) zm_X10_spellsNumber (zc_X10_spellsNumber hcM52) zk_77 rfl kw_8_84 dX10_spellsMember_101 rfl (by decide) (Nat.le_of_ble_eq_true rfl) rfl rfl ?_
            exact hj104 M52 hf
    refine zw_sub [1, 2, 0] rfl (hL73 _ ?_ n (0 : Int32) M44 hf)
    · intro M53 hf
      refine zw_aload_n hC dX10_spellsMember_110 rfl 0 rfl ?_
      refine zw_bipush hC (v := (59 : Int32)) dX10_spellsMember_111 (by decide) ?_
      obtain ⟨M54, hcM54, hf⟩ := zb1_some hf
      refine zw_cV hC [.int (59 : Int32)] [] (st1 := []) zm_X10_spellsByte (zc_X10_spellsByte hcM54) zk_77 rfl kw_8_80 dX10_spellsMember_113 rfl (by decide) (Nat.le_of_ble_eq_true rfl) rfl rfl ?_
      have h1 := Option.some.inj hf
      subst h1
      exact zw_vret hC hR dX10_spellsMember_116
  refine zw_if_eq hC 71 hf dX10_spellsMember_55 (by decide) (fun hf => ?_) (fun hf => ?_)
  · exact hj71 M42 hf
  · refine zw_aload_n hC dX10_spellsMember_58 rfl 0 rfl ?_
    refine zw_bipush hC (v := (32 : Int32)) dX10_spellsMember_59 (by decide) ?_
    obtain ⟨M55, hcM55, hf⟩ := zb1_some hf
    refine zw_cV hC [.int (32 : Int32)] [] (st1 := []) zm_X10_spellsByte (zc_X10_spellsByte hcM55) zk_77 rfl kw_8_80 dX10_spellsMember_61 rfl (by decide) (Nat.le_of_ble_eq_true rfl) rfl rfl ?_
    refine zw_aload_n hC dX10_spellsMember_64 rfl 0 rfl ?_
    refine zw_ldc2 hC dX10_spellsMember_65 kw_6_187 ?_
    obtain ⟨M56, hcM56, hf⟩ := zb1_some hf
    refine zw_cV hC [.long (79 : Int64)] [] (st1 := []) zm_X10_spells (zc_X10_spells hcM56) zk_77 rfl kw_8_76 dX10_spellsMember_68 rfl (by decide) (Nat.le_of_ble_eq_true rfl) rfl rfl ?_
    exact hj71 M56 hf
/-! ClassOfManyModel.spell(I)I -/
theorem dX10_spell_0 : decode cX10_spell 0 = .ok (.iload_n 1, 1) := by decide +kernel
theorem dX10_spell_1 : decode cX10_spell 1 = .ok (.iconst (-1), 1) := by decide +kernel
theorem dX10_spell_2 : decode cX10_spell 2 = .ok (.if_icmp .ge 5, 3) := by decide +kernel
theorem dX10_spell_5 : decode cX10_spell 5 = .ok (.iconst (-1), 1) := by decide +kernel
theorem dX10_spell_6 : decode cX10_spell 6 = .ok (.ireturn, 1) := by decide +kernel
theorem dX10_spell_7 : decode cX10_spell 7 = .ok (.aload_n 0, 1) := by decide +kernel
theorem dX10_spell_8 : decode cX10_spell 8 = .ok (.iconst 0, 1) := by decide +kernel
theorem dX10_spell_9 : decode cX10_spell 9 = .ok (.putfield 345, 3) := by decide +kernel
theorem dX10_spell_12 : decode cX10_spell 12 = .ok (.aload_n 0, 1) := by decide +kernel
theorem dX10_spell_13 : decode cX10_spell 13 = .ok (.ldc2_w 145, 3) := by decide +kernel
theorem dX10_spell_16 : decode cX10_spell 16 = .ok (.aload_n 0, 1) := by decide +kernel
theorem dX10_spell_17 : decode cX10_spell 17 = .ok (.getfield 7, 3) := by decide +kernel
theorem dX10_spell_20 : decode cX10_spell 20 = .ok (.iconst 2, 1) := by decide +kernel
theorem dX10_spell_21 : decode cX10_spell 21 = .ok (.iaload, 1) := by decide +kernel
theorem dX10_spell_22 : decode cX10_spell 22 = .ok (.invokevirtual 358, 3) := by decide +kernel
theorem dX10_spell_25 : decode cX10_spell 25 = .ok (.aload_n 0, 1) := by decide +kernel
theorem dX10_spell_26 : decode cX10_spell 26 = .ok (.ldc2_w 152, 3) := by decide +kernel
theorem dX10_spell_29 : decode cX10_spell 29 = .ok (.aload_n 0, 1) := by decide +kernel
theorem dX10_spell_30 : decode cX10_spell 30 = .ok (.getfield 7, 3) := by decide +kernel
theorem dX10_spell_33 : decode cX10_spell 33 = .ok (.iconst 3, 1) := by decide +kernel
theorem dX10_spell_34 : decode cX10_spell 34 = .ok (.iaload, 1) := by decide +kernel
theorem dX10_spell_35 : decode cX10_spell 35 = .ok (.invokevirtual 358, 3) := by decide +kernel
theorem dX10_spell_38 : decode cX10_spell 38 = .ok (.aload_n 0, 1) := by decide +kernel
theorem dX10_spell_39 : decode cX10_spell 39 = .ok (.ldc2_w 154, 3) := by decide +kernel
theorem dX10_spell_42 : decode cX10_spell 42 = .ok (.aload_n 0, 1) := by decide +kernel
theorem dX10_spell_43 : decode cX10_spell 43 = .ok (.getfield 7, 3) := by decide +kernel
theorem dX10_spell_46 : decode cX10_spell 46 = .ok (.iconst 4, 1) := by decide +kernel
theorem dX10_spell_47 : decode cX10_spell 47 = .ok (.iaload, 1) := by decide +kernel
theorem dX10_spell_48 : decode cX10_spell 48 = .ok (.invokevirtual 358, 3) := by decide +kernel
theorem dX10_spell_51 : decode cX10_spell 51 = .ok (.aload_n 0, 1) := by decide +kernel
theorem dX10_spell_52 : decode cX10_spell 52 = .ok (.ldc2_w 156, 3) := by decide +kernel
theorem dX10_spell_55 : decode cX10_spell 55 = .ok (.aload_n 0, 1) := by decide +kernel
theorem dX10_spell_56 : decode cX10_spell 56 = .ok (.getfield 7, 3) := by decide +kernel
theorem dX10_spell_59 : decode cX10_spell 59 = .ok (.iconst 5, 1) := by decide +kernel
theorem dX10_spell_60 : decode cX10_spell 60 = .ok (.iaload, 1) := by decide +kernel
theorem dX10_spell_61 : decode cX10_spell 61 = .ok (.invokevirtual 358, 3) := by decide +kernel
theorem dX10_spell_64 : decode cX10_spell 64 = .ok (.aload_n 0, 1) := by decide +kernel
theorem dX10_spell_65 : decode cX10_spell 65 = .ok (.ldc2_w 158, 3) := by decide +kernel
theorem dX10_spell_68 : decode cX10_spell 68 = .ok (.aload_n 0, 1) := by decide +kernel
theorem dX10_spell_69 : decode cX10_spell 69 = .ok (.getfield 7, 3) := by decide +kernel
theorem dX10_spell_72 : decode cX10_spell 72 = .ok (.bipush 6, 2) := by decide +kernel
theorem dX10_spell_74 : decode cX10_spell 74 = .ok (.iaload, 1) := by decide +kernel
theorem dX10_spell_75 : decode cX10_spell 75 = .ok (.aload_n 0, 1) := by decide +kernel
theorem dX10_spell_76 : decode cX10_spell 76 = .ok (.getfield 7, 3) := by decide +kernel
theorem dX10_spell_79 : decode cX10_spell 79 = .ok (.bipush 7, 2) := by decide +kernel
theorem dX10_spell_81 : decode cX10_spell 81 = .ok (.iaload, 1) := by decide +kernel
theorem dX10_spell_82 : decode cX10_spell 82 = .ok (.invokevirtual 362, 3) := by decide +kernel
theorem dX10_spell_85 : decode cX10_spell 85 = .ok (.iconst 0, 1) := by decide +kernel
theorem dX10_spell_86 : decode cX10_spell 86 = .ok (.istore_n 2, 1) := by decide +kernel
theorem dX10_spell_87 : decode cX10_spell 87 = .ok (.iload_n 2, 1) := by decide +kernel
theorem dX10_spell_88 : decode cX10_spell 88 = .ok (.aload_n 0, 1) := by decide +kernel
theorem dX10_spell_89 : decode cX10_spell 89 = .ok (.getfield 7, 3) := by decide +kernel
theorem dX10_spell_92 : decode cX10_spell 92 = .ok (.iconst 1, 1) := by decide +kernel
theorem dX10_spell_93 : decode cX10_spell 93 = .ok (.iaload, 1) := by decide +kernel
theorem dX10_spell_94 : decode cX10_spell 94 = .ok (.if_icmp .ge 34, 3) := by decide +kernel
theorem dX10_spell_97 : decode cX10_spell 97 = .ok (.aload_n 0, 1) := by decide +kernel
theorem dX10_spell_98 : decode cX10_spell 98 = .ok (.ldc2_w 163, 3) := by decide +kernel
theorem dX10_spell_101 : decode cX10_spell 101 = .ok (.aload_n 0, 1) := by decide +kernel
theorem dX10_spell_102 : decode cX10_spell 102 = .ok (.getfield 7, 3) := by decide +kernel
theorem dX10_spell_105 : decode cX10_spell 105 = .ok (.bipush 55, 2) := by decide +kernel
theorem dX10_spell_107 : decode cX10_spell 107 = .ok (.iload_n 2, 1) := by decide +kernel
theorem dX10_spell_108 : decode cX10_spell 108 = .ok (.iadd, 1) := by decide +kernel
theorem dX10_spell_109 : decode cX10_spell 109 = .ok (.iaload, 1) := by decide +kernel
theorem dX10_spell_110 : decode cX10_spell 110 = .ok (.aload_n 0, 1) := by decide +kernel
theorem dX10_spell_111 : decode cX10_spell 111 = .ok (.getfield 7, 3) := by decide +kernel
theorem dX10_spell_114 : decode cX10_spell 114 = .ok (.bipush 59, 2) := by decide +kernel
theorem dX10_spell_116 : decode cX10_spell 116 = .ok (.iload_n 2, 1) := by decide +kernel
theorem dX10_spell_117 : decode cX10_spell 117 = .ok (.iadd, 1) := by decide +kernel
theorem dX10_spell_118 : decode cX10_spell 118 = .ok (.iaload, 1) := by decide +kernel
theorem dX10_spell_119 : decode cX10_spell 119 = .ok (.invokevirtual 362, 3) := by decide +kernel
theorem dX10_spell_122 : decode cX10_spell 122 = .ok (.iinc 2 1, 3) := by decide +kernel
theorem dX10_spell_125 : decode cX10_spell 125 = .ok (.goto (-38), 3) := by decide +kernel
theorem dX10_spell_128 : decode cX10_spell 128 = .ok (.iconst 0, 1) := by decide +kernel
theorem dX10_spell_129 : decode cX10_spell 129 = .ok (.istore_n 2, 1) := by decide +kernel
theorem dX10_spell_130 : decode cX10_spell 130 = .ok (.iload_n 2, 1) := by decide +kernel
theorem dX10_spell_131 : decode cX10_spell 131 = .ok (.aload_n 0, 1) := by decide +kernel
theorem dX10_spell_132 : decode cX10_spell 132 = .ok (.getfield 7, 3) := by decide +kernel
theorem dX10_spell_135 : decode cX10_spell 135 = .ok (.iconst 0, 1) := by decide +kernel
theorem dX10_spell_136 : decode cX10_spell 136 = .ok (.iaload, 1) := by decide +kernel
theorem dX10_spell_137 : decode cX10_spell 137 = .ok (.if_icmp .ge 14, 3) := by decide +kernel
theorem dX10_spell_140 : decode cX10_spell 140 = .ok (.aload_n 0, 1) := by decide +kernel
theorem dX10_spell_141 : decode cX10_spell 141 = .ok (.iload_n 2, 1) := by decide +kernel
theorem dX10_spell_142 : decode cX10_spell 142 = .ok (.invokevirtual 366, 3) := by decide +kernel
theorem dX10_spell_145 : decode cX10_spell 145 = .ok (.iinc 2 1, 3) := by decide +kernel
theorem dX10_spell_148 : decode cX10_spell 148 = .ok (.goto (-18), 3) := by decide +kernel
theorem dX10_spell_151 : decode cX10_spell 151 = .ok (.iconst 0, 1) := by decide +kernel
theorem dX10_spell_152 : decode cX10_spell 152 = .ok (.istore_n 2, 1) := by decide +kernel
theorem dX10_spell_153 : decode cX10_spell 153 = .ok (.iload_n 2, 1) := by decide +kernel
theorem dX10_spell_154 : decode cX10_spell 154 = .ok (.aload_n 0, 1) := by decide +kernel
theorem dX10_spell_155 : decode cX10_spell 155 = .ok (.getfield 7, 3) := by decide +kernel
theorem dX10_spell_158 : decode cX10_spell 158 = .ok (.iconst 0, 1) := by decide +kernel
theorem dX10_spell_159 : decode cX10_spell 159 = .ok (.iaload, 1) := by decide +kernel
theorem dX10_spell_160 : decode cX10_spell 160 = .ok (.if_icmp .ge 54, 3) := by decide +kernel
theorem dX10_spell_163 : decode cX10_spell 163 = .ok (.iload_n 2, 1) := by decide +kernel
theorem dX10_spell_164 : decode cX10_spell 164 = .ok (.iconst 1, 1) := by decide +kernel
theorem dX10_spell_165 : decode cX10_spell 165 = .ok (.iadd, 1) := by decide +kernel
theorem dX10_spell_166 : decode cX10_spell 166 = .ok (.istore_n 3, 1) := by decide +kernel
theorem dX10_spell_167 : decode cX10_spell 167 = .ok (.iload_n 3, 1) := by decide +kernel
theorem dX10_spell_168 : decode cX10_spell 168 = .ok (.aload_n 0, 1) := by decide +kernel
theorem dX10_spell_169 : decode cX10_spell 169 = .ok (.getfield 7, 3) := by decide +kernel
theorem dX10_spell_172 : decode cX10_spell 172 = .ok (.iconst 0, 1) := by decide +kernel
theorem dX10_spell_173 : decode cX10_spell 173 = .ok (.iaload, 1) := by decide +kernel
theorem dX10_spell_174 : decode cX10_spell 174 = .ok (.if_icmp .ge 34, 3) := by decide +kernel
theorem dX10_spell_177 : decode cX10_spell 177 = .ok (.aload_n 0, 1) := by decide +kernel
theorem dX10_spell_178 : decode cX10_spell 178 = .ok (.getfield 7, 3) := by decide +kernel
theorem dX10_spell_181 : decode cX10_spell 181 = .ok (.bipush 63, 2) := by decide +kernel
theorem dX10_spell_183 : decode cX10_spell 183 = .ok (.iload_n 2, 1) := by decide +kernel
theorem dX10_spell_184 : decode cX10_spell 184 = .ok (.iadd, 1) := by decide +kernel
theorem dX10_spell_185 : decode cX10_spell 185 = .ok (.iaload, 1) := by decide +kernel
theorem dX10_spell_186 : decode cX10_spell 186 = .ok (.iload_n 3, 1) := by decide +kernel
theorem dX10_spell_187 : decode cX10_spell 187 = .ok (.invokestatic 118, 3) := by decide +kernel
theorem dX10_spell_190 : decode cX10_spell 190 = .ok (.ifCond .eq 12, 3) := by decide +kernel
theorem dX10_spell_193 : decode cX10_spell 193 = .ok (.aload_n 0, 1) := by decide +kernel
theorem dX10_spell_194 : decode cX10_spell 194 = .ok (.ldc2_w 173, 3) := by decide +kernel
theorem dX10_spell_197 : decode cX10_spell 197 = .ok (.iload_n 2, 1) := by decide +kernel
theorem dX10_spell_198 : decode cX10_spell 198 = .ok (.iload_n 3, 1) := by decide +kernel
theorem dX10_spell_199 : decode cX10_spell 199 = .ok (.invokevirtual 362, 3) := by decide +kernel
theorem dX10_spell_202 : decode cX10_spell 202 = .ok (.iinc 3 1, 3) := by decide +kernel
theorem dX10_spell_205 : decode cX10_spell 205 = .ok (.goto (-38), 3) := by decide +kernel
theorem dX10_spell_208 : decode cX10_spell 208 = .ok (.iinc 2 1, 3) := by decide +kernel
theorem dX10_spell_211 : decode cX10_spell 211 = .ok (.goto (-58), 3) := by decide +kernel
theorem dX10_spell_214 : decode cX10_spell 214 = .ok (.aload_n 0, 1) := by decide +kernel
theorem dX10_spell_215 : decode cX10_spell 215 = .ok (.iload_n 1, 1) := by decide +kernel
theorem dX10_spell_216 : decode cX10_spell 216 = .ok (.invokevirtual 369, 3) := by decide +kernel
theorem dX10_spell_219 : decode cX10_spell 219 = .ok (.ireturn, 1) := by decide +kernel
theorem zm_X10_spell : ZMv "ClassOfManyModel" yX10_spell cX10_spell 4 (some .int) 1 := ⟨kw_8_71, kw_8_69, kw_8_70, kw_1_10, by decide +kernel, by decide⟩
def zf_X10_spell_L87 (n : Nat) (K128 : ZMem → Option (Int32 × ZMem)) : Nat → Int32 → ZMem → Option (Int32 × ZMem)
  | 0, _, _ => none
  | n87 + 1, v57, M58 =>
  zrd M58 78 73 (1 : Int32) (fun v60 => (if v60 ≤ v57 then (K128 M58) else zrd M58 78 73 ((55 : Int32) + v57) (fun v61 => zrd M58 78 73 ((59 : Int32) + v57) (fun v62 => zb1 (zf_X10_spellsTwo n (1277870079 : Int64) v61 v62 M58) (fun M63 => (zf_X10_spell_L87 n K128 n87 (v57 + (1 : Int32)) M63))))))
def zf_X10_spell_L130 (n : Nat) (K151 : ZMem → Option (Int32 × ZMem)) : Nat → Int32 → ZMem → Option (Int32 × ZMem)
  | 0, _, _ => none
  | n130 + 1, v65, M66 =>
  zrd M66 78 73 (0 : Int32) (fun v68 => (if v68 ≤ v65 then (K151 M66) else zb1 (zf_X10_spellsMember n v65 M66) (fun M69 => (zf_X10_spell_L130 n K151 n130 (v65 + (1 : Int32)) M69))))
def zf_X10_spell_j202 (R167 : Int32 → ZMem → Option (Int32 × ZMem)) (v75 : Int32) (M81 : ZMem) : Option (Int32 × ZMem) :=
  (R167 (v75 + (1 : Int32)) M81)
def zf_X10_spell_L167 (v71 : Int32) (n : Nat) (K208 : ZMem → Option (Int32 × ZMem)) : Nat → Int32 → ZMem → Option (Int32 × ZMem)
  | 0, _, _ => none
  | n167 + 1, v75, M76 =>
  zrd M76 78 73 (0 : Int32) (fun v78 => (if v78 ≤ v75 then (K208 M76) else zrd M76 78 73 ((63 : Int32) + v71) (fun v79 => zb1 (zf_X10_has v79 v75) (fun v80 => (if v80 = 0 then (zf_X10_spell_j202 (fun x0 x1 => zf_X10_spell_L167 v71 n K208 n167 x0 x1) v75 M76) else zb1 (zf_X10_spellsTwo n (37396683146 : Int64) v71 v75 M76) (fun M82 => (zf_X10_spell_j202 (fun x0 x1 => zf_X10_spell_L167 v71 n K208 n167 x0 x1) v75 M82)))))))
def zf_X10_spell_L153 (n : Nat) (K214 : ZMem → Option (Int32 × ZMem)) : Nat → Int32 → ZMem → Option (Int32 × ZMem)
  | 0, _, _ => none
  | n153 + 1, v71, M72 =>
  zrd M72 78 73 (0 : Int32) (fun v74 => (if v74 ≤ v71 then (K214 M72) else (zf_X10_spell_L167 v71 n (fun M83 => (zf_X10_spell_L153 n K214 n153 (v71 + (1 : Int32)) M83)) n (v71 + (1 : Int32)) M72)))
def zf_X10_spell (n : Nat) (a1 : Int32) (M : ZMem) : Option (Int32 × ZMem) :=
  (if (-1 : Int32) ≤ a1 then zput M 77 36 (0 : Int32) (fun M45 => zrd M45 78 73 (2 : Int32) (fun v46 => zb1 (zf_X10_spellsOne n (133789 : Int64) v46 M45) (fun M47 => zrd M47 78 73 (3 : Int32) (fun v48 => zb1 (zf_X10_spellsOne n (4514 : Int64) v48 M47) (fun M49 => zrd M49 78 73 (4 : Int32) (fun v50 => zb1 (zf_X10_spellsOne n (6476969 : Int64) v50 M49) (fun M51 => zrd M51 78 73 (5 : Int32) (fun v52 => zb1 (zf_X10_spellsOne n (400557 : Int64) v52 M51) (fun M53 => zrd M53 78 73 (6 : Int32) (fun v54 => zrd M53 78 73 (7 : Int32) (fun v55 => zb1 (zf_X10_spellsTwo n (232600981 : Int64) v54 v55 M53) (fun M56 => (zf_X10_spell_L87 n (fun M64 => (zf_X10_spell_L130 n (fun M70 => (zf_X10_spell_L153 n (fun M84 => zb1 (zf_X10_spelled a1 M84) (fun v85 => some (v85, M84))) n (0 : Int32) M70)) n (0 : Int32) M64)) n (0 : Int32) M56))))))))))))) else some ((-1 : Int32), M))
set_option maxHeartbeats 4000000 in
set_option maxRecDepth 100000 in
theorem zc_X10_spell {l : Launch} {D : va_G} {ad : Nat → Nat} {cA : Nat → ClassId} {n : Nat} {a1 : Int32} {M : ZMem} {r : Int32} {M' : ZMem} (hf : zf_X10_spell n a1 M = some (r, M')) : ZCt l D ad cA yX10_spell cX10_spell 4 (some .int) 4 [.ref (ad 77), .int a1] M (some (.int r)) M' := by
  refine zct (by decide +kernel) (Nat.le_of_ble_eq_true rfl) (lv := [(0, .ref (ad 77)), (1, .int a1)]) rfl (fun E hl hD had hcA hN hC hR => ?_)
  subst hl; subst hD; subst had; subst hcA
  unfold zf_X10_spell at hf
  refine zw_iload_n hC dX10_spell_0 rfl 1 rfl ?_
  refine zw_iconst hC (v := (-1 : Int32)) dX10_spell_1 (by decide) ?_
  refine zw_icmp_ge hC 7 hf dX10_spell_2 (by decide) (fun hf => ?_) (fun hf => ?_)
  · refine zw_aload_n hC dX10_spell_7 rfl 0 rfl ?_
    refine zw_iconst hC (v := (0 : Int32)) dX10_spell_8 (by decide) ?_
    refine zw_puti hC hf zF_Model_speltMany zk_77 dX10_spell_9 kw_6_22 (fun M45 hf => ?_)
    refine zw_aload_n hC dX10_spell_12 rfl 0 rfl ?_
    refine zw_ldc2 hC dX10_spell_13 kw_6_134 ?_
    refine zw_aload_n hC dX10_spell_16 rfl 0 rfl ?_
    refine zw_getr (k' := 78) hC zF_Model_now zk_77 rfl dX10_spell_17 kw_5_227 ?_
    refine zw_iconst hC (v := (2 : Int32)) dX10_spell_20 (by decide) ?_
    refine zw_iald hC hf zk_78 dX10_spell_21 (fun v46 hf => ?_)
    obtain ⟨M47, hcM47, hf⟩ := zb1_some hf
    refine zw_cV hC [.long (133789 : Int64), .int v46] [] (st1 := []) zm_X10_spellsOne (zc_X10_spellsOne hcM47) zk_77 rfl kw_8_72 dX10_spell_22 rfl (by decide) (Nat.le_of_ble_eq_true rfl) rfl rfl ?_
    refine zw_aload_n hC dX10_spell_25 rfl 0 rfl ?_
    refine zw_ldc2 hC dX10_spell_26 kw_6_169 ?_
    refine zw_aload_n hC dX10_spell_29 rfl 0 rfl ?_
    refine zw_getr (k' := 78) hC zF_Model_now zk_77 rfl dX10_spell_30 kw_5_227 ?_
    refine zw_iconst hC (v := (3 : Int32)) dX10_spell_33 (by decide) ?_
    refine zw_iald hC hf zk_78 dX10_spell_34 (fun v48 hf => ?_)
    obtain ⟨M49, hcM49, hf⟩ := zb1_some hf
    refine zw_cV hC [.long (4514 : Int64), .int v48] [] (st1 := []) zm_X10_spellsOne (zc_X10_spellsOne hcM49) zk_77 rfl kw_8_72 dX10_spell_35 rfl (by decide) (Nat.le_of_ble_eq_true rfl) rfl rfl ?_
    refine zw_aload_n hC dX10_spell_38 rfl 0 rfl ?_
    refine zw_ldc2 hC dX10_spell_39 kw_6_170 ?_
    refine zw_aload_n hC dX10_spell_42 rfl 0 rfl ?_
    refine zw_getr (k' := 78) hC zF_Model_now zk_77 rfl dX10_spell_43 kw_5_227 ?_
    refine zw_iconst hC (v := (4 : Int32)) dX10_spell_46 (by decide) ?_
    refine zw_iald hC hf zk_78 dX10_spell_47 (fun v50 hf => ?_)
    obtain ⟨M51, hcM51, hf⟩ := zb1_some hf
    refine zw_cV hC [.long (6476969 : Int64), .int v50] [] (st1 := []) zm_X10_spellsOne (zc_X10_spellsOne hcM51) zk_77 rfl kw_8_72 dX10_spell_48 rfl (by decide) (Nat.le_of_ble_eq_true rfl) rfl rfl ?_
    refine zw_aload_n hC dX10_spell_51 rfl 0 rfl ?_
    refine zw_ldc2 hC dX10_spell_52 kw_6_171 ?_
    refine zw_aload_n hC dX10_spell_55 rfl 0 rfl ?_
    refine zw_getr (k' := 78) hC zF_Model_now zk_77 rfl dX10_spell_56 kw_5_227 ?_
    refine zw_iconst hC (v := (5 : Int32)) dX10_spell_59 (by decide) ?_
    refine zw_iald hC hf zk_78 dX10_spell_60 (fun v52 hf => ?_)
    obtain ⟨M53, hcM53, hf⟩ := zb1_some hf
    refine zw_cV hC [.long (400557 : Int64), .int v52] [] (st1 := []) zm_X10_spellsOne (zc_X10_spellsOne hcM53) zk_77 rfl kw_8_72 dX10_spell_61 rfl (by decide) (Nat.le_of_ble_eq_true rfl) rfl rfl ?_
    refine zw_aload_n hC dX10_spell_64 rfl 0 rfl ?_
    refine zw_ldc2 hC dX10_spell_65 kw_6_172 ?_
    refine zw_aload_n hC dX10_spell_68 rfl 0 rfl ?_
    refine zw_getr (k' := 78) hC zF_Model_now zk_77 rfl dX10_spell_69 kw_5_227 ?_
    refine zw_bipush hC (v := (6 : Int32)) dX10_spell_72 (by decide) ?_
    refine zw_iald hC hf zk_78 dX10_spell_74 (fun v54 hf => ?_)
    refine zw_aload_n hC dX10_spell_75 rfl 0 rfl ?_
    refine zw_getr (k' := 78) hC zF_Model_now zk_77 rfl dX10_spell_76 kw_5_227 ?_
    refine zw_bipush hC (v := (7 : Int32)) dX10_spell_79 (by decide) ?_
    refine zw_iald hC hf zk_78 dX10_spell_81 (fun v55 hf => ?_)
    obtain ⟨M56, hcM56, hf⟩ := zb1_some hf
    refine zw_cV hC [.long (232600981 : Int64), .int v54, .int v55] [] (st1 := []) zm_X10_spellsTwo (zc_X10_spellsTwo hcM56) zk_77 rfl kw_8_88 dX10_spell_82 rfl (by decide) (Nat.le_of_ble_eq_true rfl) rfl rfl ?_
    refine zw_iconst hC (v := (0 : Int32)) dX10_spell_85 (by decide) ?_
    refine zw_istore_n hC (lv' := [(2, .int (0 : Int32)), (0, .ref (zad E 77)), (1, .int a1)]) dX10_spell_86 rfl hN (by decide) rfl ?_
    have hL87 : ∀ (K128 : ZMem → Option (Int32 × ZMem)), (∀ (M59 : ZMem), K128 M59 = some (r, M') → ZW E 128 [(0, .ref (zad E 77)), (1, .int a1)] [] M59) → ∀ (n87 : Nat), ∀ (v57 : Int32), ∀ (M58 : ZMem), zf_X10_spell_L87 n K128 n87 v57 M58 = some (r, M') → ZW E 87 [(0, .ref (zad E 77)), (1, .int a1), (2, .int v57)] [] M58 := by
      intro K128 hK128
      intro n87
      induction n87 with
      | zero => intro v57 M58 hf; rw [zf_X10_spell_L87] at hf; cases hf
      | succ n87 ih87 =>
        intro v57 M58 hf
        rw [zf_X10_spell_L87] at hf
        refine zw_iload_n hC dX10_spell_87 rfl 2 rfl ?_
        refine zw_aload_n hC dX10_spell_88 rfl 0 rfl ?_
        refine zw_getr (k' := 78) hC zF_Model_now zk_77 rfl dX10_spell_89 kw_5_227 ?_
        refine zw_iconst hC (v := (1 : Int32)) dX10_spell_92 (by decide) ?_
        refine zw_iald hC hf zk_78 dX10_spell_93 (fun v60 hf => ?_)
        refine zw_icmp_ge hC 128 hf dX10_spell_94 (by decide) (fun hf => ?_) (fun hf => ?_)
        · exact zw_sub [0, 1] rfl (hK128 M58 hf)
        · refine zw_aload_n hC dX10_spell_97 rfl 0 rfl ?_
          refine zw_ldc2 hC dX10_spell_98 kw_6_177 ?_
          refine zw_aload_n hC dX10_spell_101 rfl 0 rfl ?_
          refine zw_getr (k' := 78) hC zF_Model_now zk_77 rfl dX10_spell_102 kw_5_227 ?_
          refine zw_bipush hC (v := (55 : Int32)) dX10_spell_105 (by decide) ?_
          refine zw_iload_n hC dX10_spell_107 rfl 2 rfl ?_
          refine zw_iadd hC dX10_spell_108 ?_
          refine zw_iald hC hf zk_78 dX10_spell_109 (fun v61 hf => ?_)
          refine zw_aload_n hC dX10_spell_110 rfl 0 rfl ?_
          refine zw_getr (k' := 78) hC zF_Model_now zk_77 rfl dX10_spell_111 kw_5_227 ?_
          refine zw_bipush hC (v := (59 : Int32)) dX10_spell_114 (by decide) ?_
          refine zw_iload_n hC dX10_spell_116 rfl 2 rfl ?_
          refine zw_iadd hC dX10_spell_117 ?_
          refine zw_iald hC hf zk_78 dX10_spell_118 (fun v62 hf => ?_)
          obtain ⟨M63, hcM63, hf⟩ := zb1_some hf
          refine zw_cV hC [.long (1277870079 : Int64), .int v61, .int v62] [] (st1 := []) zm_X10_spellsTwo (zc_X10_spellsTwo hcM63) zk_77 rfl kw_8_88 dX10_spell_119 rfl (by decide) (Nat.le_of_ble_eq_true rfl) rfl rfl ?_
          refine zw_iinc hC (v := (1 : Int32)) (lv' := [(2, .int (v57 + (1 : Int32))), (0, .ref (zad E 77)), (1, .int a1)]) dX10_spell_122 2 rfl (by decide) hN (by decide) rfl ?_
          refine zw_goto hC 87 dX10_spell_125 (by decide) ?_
          exact zw_sub [1, 2, 0] rfl (ih87 (v57 + (1 : Int32)) M63 hf)
    refine zw_sub [1, 2, 0] rfl (hL87 _ ?_ n (0 : Int32) M56 hf)
    · intro M64 hf
      refine zw_iconst hC (v := (0 : Int32)) dX10_spell_128 (by decide) ?_
      refine zw_istore_n hC (lv' := [(2, .int (0 : Int32)), (0, .ref (zad E 77)), (1, .int a1)]) dX10_spell_129 rfl hN (by decide) rfl ?_
      have hL130 : ∀ (K151 : ZMem → Option (Int32 × ZMem)), (∀ (M67 : ZMem), K151 M67 = some (r, M') → ZW E 151 [(0, .ref (zad E 77)), (1, .int a1)] [] M67) → ∀ (n130 : Nat), ∀ (v65 : Int32), ∀ (M66 : ZMem), zf_X10_spell_L130 n K151 n130 v65 M66 = some (r, M') → ZW E 130 [(0, .ref (zad E 77)), (1, .int a1), (2, .int v65)] [] M66 := by
        intro K151 hK151
        intro n130
        induction n130 with
        | zero => intro v65 M66 hf; rw [zf_X10_spell_L130] at hf; cases hf
        | succ n130 ih130 =>
          intro v65 M66 hf
          rw [zf_X10_spell_L130] at hf
          refine zw_iload_n hC dX10_spell_130 rfl 2 rfl ?_
          refine zw_aload_n hC dX10_spell_131 rfl 0 rfl ?_
          refine zw_getr (k' := 78) hC zF_Model_now zk_77 rfl dX10_spell_132 kw_5_227 ?_
          refine zw_iconst hC (v := (0 : Int32)) dX10_spell_135 (by decide) ?_
          refine zw_iald hC hf zk_78 dX10_spell_136 (fun v68 hf => ?_)
          refine zw_icmp_ge hC 151 hf dX10_spell_137 (by decide) (fun hf => ?_) (fun hf => ?_)
          · exact zw_sub [0, 1] rfl (hK151 M66 hf)
          · refine zw_aload_n hC dX10_spell_140 rfl 0 rfl ?_
            refine zw_iload_n hC dX10_spell_141 rfl 2 rfl ?_
            obtain ⟨M69, hcM69, hf⟩ := zb1_some hf
            refine zw_cV hC [.int v65] [] (st1 := []) zm_X10_spellsMember (zc_X10_spellsMember hcM69) zk_77 rfl kw_8_92 dX10_spell_142 rfl (by decide) (Nat.le_of_ble_eq_true rfl) rfl rfl ?_
            refine zw_iinc hC (v := (1 : Int32)) (lv' := [(2, .int (v65 + (1 : Int32))), (0, .ref (zad E 77)), (1, .int a1)]) dX10_spell_145 2 rfl (by decide) hN (by decide) rfl ?_
            refine zw_goto hC 130 dX10_spell_148 (by decide) ?_
            exact zw_sub [1, 2, 0] rfl (ih130 (v65 + (1 : Int32)) M69 hf)
      refine zw_sub [1, 2, 0] rfl (hL130 _ ?_ n (0 : Int32) M64 hf)
      · intro M70 hf
        refine zw_iconst hC (v := (0 : Int32)) dX10_spell_151 (by decide) ?_
        refine zw_istore_n hC (lv' := [(2, .int (0 : Int32)), (0, .ref (zad E 77)), (1, .int a1)]) dX10_spell_152 rfl hN (by decide) rfl ?_
        have hL153 : ∀ (K214 : ZMem → Option (Int32 × ZMem)), (∀ (M73 : ZMem), K214 M73 = some (r, M') → ZW E 214 [(0, .ref (zad E 77)), (1, .int a1)] [] M73) → ∀ (n153 : Nat), ∀ (v71 : Int32), ∀ (M72 : ZMem), zf_X10_spell_L153 n K214 n153 v71 M72 = some (r, M') → ZW E 153 [(0, .ref (zad E 77)), (1, .int a1), (2, .int v71)] [] M72 := by
          intro K214 hK214
          intro n153
          induction n153 with
          | zero => intro v71 M72 hf; rw [zf_X10_spell_L153] at hf; cases hf
          | succ n153 ih153 =>
            intro v71 M72 hf
            rw [zf_X10_spell_L153] at hf
            refine zw_iload_n hC dX10_spell_153 rfl 2 rfl ?_
            refine zw_aload_n hC dX10_spell_154 rfl 0 rfl ?_
            refine zw_getr (k' := 78) hC zF_Model_now zk_77 rfl dX10_spell_155 kw_5_227 ?_
            refine zw_iconst hC (v := (0 : Int32)) dX10_spell_158 (by decide) ?_
            refine zw_iald hC hf zk_78 dX10_spell_159 (fun v74 hf => ?_)
            refine zw_icmp_ge hC 214 hf dX10_spell_160 (by decide) (fun hf => ?_) (fun hf => ?_)
            · exact zw_sub [0, 1] rfl (hK214 M72 hf)
            · refine zw_iload_n hC dX10_spell_163 rfl 2 rfl ?_
              refine zw_iconst hC (v := (1 : Int32)) dX10_spell_164 (by decide) ?_
              refine zw_iadd hC dX10_spell_165 ?_
              refine zw_istore_n hC (lv' := [(3, .int (v71 + (1 : Int32))), (0, .ref (zad E 77)), (1, .int a1), (2, .int v71)]) dX10_spell_166 rfl hN (by decide) rfl ?_
              have hL167 : ∀ (K208 : ZMem → Option (Int32 × ZMem)), (∀ (M77 : ZMem), K208 M77 = some (r, M') → ZW E 208 [(0, .ref (zad E 77)), (1, .int a1), (2, .int v71)] [] M77) → ∀ (n167 : Nat), ∀ (v75 : Int32), ∀ (M76 : ZMem), zf_X10_spell_L167 v71 n K208 n167 v75 M76 = some (r, M') → ZW E 167 [(0, .ref (zad E 77)), (1, .int a1), (2, .int v71), (3, .int v75)] [] M76 := by
                intro K208 hK208
                intro n167
                induction n167 with
                | zero => intro v75 M76 hf; rw [zf_X10_spell_L167] at hf; cases hf
                | succ n167 ih167 =>
                  intro v75 M76 hf
                  rw [zf_X10_spell_L167] at hf
                  refine zw_iload_n hC dX10_spell_167 rfl 3 rfl ?_
                  refine zw_aload_n hC dX10_spell_168 rfl 0 rfl ?_
                  refine zw_getr (k' := 78) hC zF_Model_now zk_77 rfl dX10_spell_169 kw_5_227 ?_
                  refine zw_iconst hC (v := (0 : Int32)) dX10_spell_172 (by decide) ?_
                  refine zw_iald hC hf zk_78 dX10_spell_173 (fun v78 hf => ?_)
                  refine zw_icmp_ge hC 208 hf dX10_spell_174 (by decide) (fun hf => ?_) (fun hf => ?_)
                  · exact zw_sub [0, 1, 2] rfl (hK208 M76 hf)
                  · refine zw_aload_n hC dX10_spell_177 rfl 0 rfl ?_
                    refine zw_getr (k' := 78) hC zF_Model_now zk_77 rfl dX10_spell_178 kw_5_227 ?_
                    refine zw_bipush hC (v := (63 : Int32)) dX10_spell_181 (by decide) ?_
                    refine zw_iload_n hC dX10_spell_183 rfl 2 rfl ?_
                    refine zw_iadd hC dX10_spell_184 ?_
                    refine zw_iald hC hf zk_78 dX10_spell_185 (fun v79 hf => ?_)
                    refine zw_iload_n hC dX10_spell_186 rfl 3 rfl ?_
                    obtain ⟨v80, hc80, hf⟩ := zb1_some hf
                    refine zw_cS hC [.int v79, .int v75] [] (st1 := [.int v80]) zm_X10_has (zc_X10_has hc80) kw_6_150 dX10_spell_187 rfl (by decide) (Nat.le_of_ble_eq_true rfl) rfl rfl ?_
                    have hj202 : ∀ (M81 : ZMem), zf_X10_spell_j202 (fun x0 x1 => zf_X10_spell_L167 v71 n K208 n167 x0 x1) v75 M81 = some (r, M') → ZW E 202 [(0, .ref (zad E 77)), (1, .int a1), (2, .int v71), (3, .int v75)] [] M81 := by
                      intro M81 hf
                      unfold zf_X10_spell_j202 at hf
                      refine zw_iinc hC (v := (1 : Int32)) (lv' := [(3, .int (v75 + (1 : Int32))), (0, .ref (zad E 77)), (1, .int a1), (2, .int v71)]) dX10_spell_202 3 rfl (by decide) hN (by decide) rfl ?_
                      refine zw_goto hC 167 dX10_spell_205 (by decide) ?_
                      exact zw_sub [1, 2, 3, 0] rfl (ih167 (v75 + (1 : Int32)) M81 hf)
                    refine zw_if_eq hC 202 hf dX10_spell_190 (by decide) (fun hf => ?_) (fun hf => ?_)
                    · exact hj202 M76 hf
                    · refine zw_aload_n hC dX10_spell_193 rfl 0 rfl ?_
                      refine zw_ldc2 hC dX10_spell_194 kw_6_188 ?_
                      refine zw_iload_n hC dX10_spell_197 rfl 2 rfl ?_
                      refine zw_iload_n hC dX10_spell_198 rfl 3 rfl ?_
                      obtain ⟨M82, hcM82, hf⟩ := zb1_some hf
                      refine zw_cV hC [.long (37396683146 : Int64), .int v71, .int v75] [] (st1 := []) zm_X10_spellsTwo (zc_X10_spellsTwo hcM82) zk_77 rfl kw_8_88 dX10_spell_199 rfl (by decide) (Nat.le_of_ble_eq_true rfl) rfl rfl ?_
                      exact hj202 M82 hf
              refine zw_sub [1, 2, 3, 0] rfl (hL167 _ ?_ n (v71 + (1 : Int32)) M72 hf)
              · intro M83 hf
                refine zw_iinc hC (v := (1 : Int32)) (lv' := [(2, .int (v71 + (1 : Int32))), (0, .ref (zad E 77)), (1, .int a1)]) dX10_spell_208 2 rfl (by decide) hN (by decide) rfl ?_
                refine zw_goto hC 153 dX10_spell_211 (by decide) ?_
                exact zw_sub [1, 2, 0] rfl (ih153 (v71 + (1 : Int32)) M83 hf)
        refine zw_sub [1, 2, 0] rfl (hL153 _ ?_ n (0 : Int32) M70 hf)
        · intro M84 hf
          refine zw_aload_n hC dX10_spell_214 rfl 0 rfl ?_
          refine zw_iload_n hC dX10_spell_215 rfl 1 rfl ?_
          obtain ⟨v85, hc85, hf⟩ := zb1_some hf
          refine zw_cV hC [.int a1] [] (st1 := [.int v85]) zm_X10_spelled (zc_X10_spelled hc85) zk_77 rfl kw_8_96 dX10_spell_216 rfl (by decide) (Nat.le_of_ble_eq_true rfl) rfl rfl ?_
          obtain ⟨h1, h2⟩ := Prod.mk.inj (Option.some.inj hf)
          subst h1; subst h2
          exact zw_iret hC hR dX10_spell_219
  · refine zw_iconst hC (v := (-1 : Int32)) dX10_spell_5 (by decide) ?_
    obtain ⟨h1, h2⟩ := Prod.mk.inj (Option.some.inj hf)
    subst h1; subst h2
    exact zw_iret hC hR dX10_spell_6
/-! ClassOfManyModel.report(I)I -/
theorem dX10_report_0 : decode cX10_report 0 = .ok (.iload_n 1, 1) := by decide +kernel
theorem dX10_report_1 : decode cX10_report 1 = .ok (.iconst (-1), 1) := by decide +kernel
theorem dX10_report_2 : decode cX10_report 2 = .ok (.if_icmp .ge 5, 3) := by decide +kernel
theorem dX10_report_5 : decode cX10_report 5 = .ok (.iconst (-1), 1) := by decide +kernel
theorem dX10_report_6 : decode cX10_report 6 = .ok (.ireturn, 1) := by decide +kernel
theorem dX10_report_7 : decode cX10_report 7 = .ok (.aload_n 0, 1) := by decide +kernel
theorem dX10_report_8 : decode cX10_report 8 = .ok (.invokevirtual 321, 3) := by decide +kernel
theorem dX10_report_11 : decode cX10_report 11 = .ok (.aload_n 0, 1) := by decide +kernel
theorem dX10_report_12 : decode cX10_report 12 = .ok (.iconst 0, 1) := by decide +kernel
theorem dX10_report_13 : decode cX10_report 13 = .ok (.putfield 345, 3) := by decide +kernel
theorem dX10_report_16 : decode cX10_report 16 = .ok (.iconst 0, 1) := by decide +kernel
theorem dX10_report_17 : decode cX10_report 17 = .ok (.istore_n 2, 1) := by decide +kernel
theorem dX10_report_18 : decode cX10_report 18 = .ok (.iload_n 2, 1) := by decide +kernel
theorem dX10_report_19 : decode cX10_report 19 = .ok (.aload_n 0, 1) := by decide +kernel
theorem dX10_report_20 : decode cX10_report 20 = .ok (.getfield 7, 3) := by decide +kernel
theorem dX10_report_23 : decode cX10_report 23 = .ok (.iconst 0, 1) := by decide +kernel
theorem dX10_report_24 : decode cX10_report 24 = .ok (.iaload, 1) := by decide +kernel
theorem dX10_report_25 : decode cX10_report 25 = .ok (.if_icmp .ge 34, 3) := by decide +kernel
theorem dX10_report_28 : decode cX10_report 28 = .ok (.aload_n 0, 1) := by decide +kernel
theorem dX10_report_29 : decode cX10_report 29 = .ok (.getfield 235, 3) := by decide +kernel
theorem dX10_report_32 : decode cX10_report 32 = .ok (.iload_n 2, 1) := by decide +kernel
theorem dX10_report_33 : decode cX10_report 33 = .ok (.invokestatic 118, 3) := by decide +kernel
theorem dX10_report_36 : decode cX10_report 36 = .ok (.ifCond .eq 17, 3) := by decide +kernel
theorem dX10_report_39 : decode cX10_report 39 = .ok (.aload_n 0, 1) := by decide +kernel
theorem dX10_report_40 : decode cX10_report 40 = .ok (.ldc2_w 372, 3) := by decide +kernel
theorem dX10_report_43 : decode cX10_report 43 = .ok (.iload_n 2, 1) := by decide +kernel
theorem dX10_report_44 : decode cX10_report 44 = .ok (.aload_n 0, 1) := by decide +kernel
theorem dX10_report_45 : decode cX10_report 45 = .ok (.getfield 34, 3) := by decide +kernel
theorem dX10_report_48 : decode cX10_report 48 = .ok (.iload_n 2, 1) := by decide +kernel
theorem dX10_report_49 : decode cX10_report 49 = .ok (.iaload, 1) := by decide +kernel
theorem dX10_report_50 : decode cX10_report 50 = .ok (.invokevirtual 362, 3) := by decide +kernel
theorem dX10_report_53 : decode cX10_report 53 = .ok (.iinc 2 1, 3) := by decide +kernel
theorem dX10_report_56 : decode cX10_report 56 = .ok (.goto (-38), 3) := by decide +kernel
theorem dX10_report_59 : decode cX10_report 59 = .ok (.aload_n 0, 1) := by decide +kernel
theorem dX10_report_60 : decode cX10_report 60 = .ok (.ldc2_w 374, 3) := by decide +kernel
theorem dX10_report_63 : decode cX10_report 63 = .ok (.aload_n 0, 1) := by decide +kernel
theorem dX10_report_64 : decode cX10_report 64 = .ok (.getfield 265, 3) := by decide +kernel
theorem dX10_report_67 : decode cX10_report 67 = .ok (.invokevirtual 358, 3) := by decide +kernel
theorem dX10_report_70 : decode cX10_report 70 = .ok (.aload_n 0, 1) := by decide +kernel
theorem dX10_report_71 : decode cX10_report 71 = .ok (.iload_n 1, 1) := by decide +kernel
theorem dX10_report_72 : decode cX10_report 72 = .ok (.invokevirtual 369, 3) := by decide +kernel
theorem dX10_report_75 : decode cX10_report 75 = .ok (.ireturn, 1) := by decide +kernel
theorem zm_X10_report : ZMv "ClassOfManyModel" yX10_report cX10_report 3 (some .int) 1 := ⟨kw_8_103, kw_8_101, kw_8_102, kw_1_10, by decide +kernel, by decide⟩
def zf_X10_report_j53 (R18 : Int32 → ZMem → Option (Int32 × ZMem)) (v31 : Int32) (M36 : ZMem) : Option (Int32 × ZMem) :=
  (R18 (v31 + (1 : Int32)) M36)
def zf_X10_report_L18 (n : Nat) (K59 : ZMem → Option (Int32 × ZMem)) : Nat → Int32 → ZMem → Option (Int32 × ZMem)
  | 0, _, _ => none
  | n18 + 1, v31, M32 =>
  zrd M32 78 73 (0 : Int32) (fun v34 => (if v34 ≤ v31 then (K59 M32) else zb1 (zf_X10_has (M32 77 22) v31) (fun v35 => (if v35 = 0 then (zf_X10_report_j53 (fun x0 x1 => zf_X10_report_L18 n K59 n18 x0 x1) v31 M32) else zrd M32 86 10 v31 (fun v37 => zb1 (zf_X10_spellsTwo n (315904 : Int64) v31 v37 M32) (fun M38 => (zf_X10_report_j53 (fun x0 x1 => zf_X10_report_L18 n K59 n18 x0 x1) v31 M38)))))))
def zf_X10_report (n : Nat) (a1 : Int32) (M : ZMem) : Option (Int32 × ZMem) :=
  (if (-1 : Int32) ≤ a1 then zb1 (zf_X10_paysNow n M) (fun M29 => zput M29 77 36 (0 : Int32) (fun M30 => (zf_X10_report_L18 n (fun M39 => zb1 (zf_X10_spellsOne n (279875 : Int64) (M39 77 29) M39) (fun M40 => zb1 (zf_X10_spelled a1 M40) (fun v41 => some (v41, M40)))) n (0 : Int32) M30))) else some ((-1 : Int32), M))
set_option maxHeartbeats 4000000 in
set_option maxRecDepth 100000 in
theorem zc_X10_report {l : Launch} {D : va_G} {ad : Nat → Nat} {cA : Nat → ClassId} {n : Nat} {a1 : Int32} {M : ZMem} {r : Int32} {M' : ZMem} (hf : zf_X10_report n a1 M = some (r, M')) : ZCt l D ad cA yX10_report cX10_report 3 (some .int) 8 [.ref (ad 77), .int a1] M (some (.int r)) M' := by
  refine zct (by decide +kernel) (Nat.le_of_ble_eq_true rfl) (lv := [(0, .ref (ad 77)), (1, .int a1)]) rfl (fun E hl hD had hcA hN hC hR => ?_)
  subst hl; subst hD; subst had; subst hcA
  unfold zf_X10_report at hf
  refine zw_iload_n hC dX10_report_0 rfl 1 rfl ?_
  refine zw_iconst hC (v := (-1 : Int32)) dX10_report_1 (by decide) ?_
  refine zw_icmp_ge hC 7 hf dX10_report_2 (by decide) (fun hf => ?_) (fun hf => ?_)
  · refine zw_aload_n hC dX10_report_7 rfl 0 rfl ?_
    obtain ⟨M29, hcM29, hf⟩ := zb1_some hf
    refine zw_cV hC [] [] (st1 := []) zm_X10_paysNow (zc_X10_paysNow hcM29) zk_77 rfl kw_7_178 dX10_report_8 rfl (by decide) (Nat.le_of_ble_eq_true rfl) rfl rfl ?_
    refine zw_aload_n hC dX10_report_11 rfl 0 rfl ?_
    refine zw_iconst hC (v := (0 : Int32)) dX10_report_12 (by decide) ?_
    refine zw_puti hC hf zF_Model_speltMany zk_77 dX10_report_13 kw_6_22 (fun M30 hf => ?_)
    refine zw_iconst hC (v := (0 : Int32)) dX10_report_16 (by decide) ?_
    refine zw_istore_n hC (lv' := [(2, .int (0 : Int32)), (0, .ref (zad E 77)), (1, .int a1)]) dX10_report_17 rfl hN (by decide) rfl ?_
    have hL18 : ∀ (K59 : ZMem → Option (Int32 × ZMem)), (∀ (M33 : ZMem), K59 M33 = some (r, M') → ZW E 59 [(0, .ref (zad E 77)), (1, .int a1)] [] M33) → ∀ (n18 : Nat), ∀ (v31 : Int32), ∀ (M32 : ZMem), zf_X10_report_L18 n K59 n18 v31 M32 = some (r, M') → ZW E 18 [(0, .ref (zad E 77)), (1, .int a1), (2, .int v31)] [] M32 := by
      intro K59 hK59
      intro n18
      induction n18 with
      | zero => intro v31 M32 hf; rw [zf_X10_report_L18] at hf; cases hf
      | succ n18 ih18 =>
        intro v31 M32 hf
        rw [zf_X10_report_L18] at hf
        refine zw_iload_n hC dX10_report_18 rfl 2 rfl ?_
        refine zw_aload_n hC dX10_report_19 rfl 0 rfl ?_
        refine zw_getr (k' := 78) hC zF_Model_now zk_77 rfl dX10_report_20 kw_5_227 ?_
        refine zw_iconst hC (v := (0 : Int32)) dX10_report_23 (by decide) ?_
        refine zw_iald hC hf zk_78 dX10_report_24 (fun v34 hf => ?_)
        refine zw_icmp_ge hC 59 hf dX10_report_25 (by decide) (fun hf => ?_) (fun hf => ?_)
        · exact zw_sub [0, 1] rfl (hK59 M32 hf)
        · refine zw_aload_n hC dX10_report_28 rfl 0 rfl ?_
          refine zw_geti hC zF_Model_nowCounted zk_77 dX10_report_29 kw_6_8 ?_
          refine zw_iload_n hC dX10_report_32 rfl 2 rfl ?_
          obtain ⟨v35, hc35, hf⟩ := zb1_some hf
          refine zw_cS hC [.int (M32 77 22), .int v31] [] (st1 := [.int v35]) zm_X10_has (zc_X10_has hc35) kw_6_150 dX10_report_33 rfl (by decide) (Nat.le_of_ble_eq_true rfl) rfl rfl ?_
          have hj53 : ∀ (M36 : ZMem), zf_X10_report_j53 (fun x0 x1 => zf_X10_report_L18 n K59 n18 x0 x1) v31 M36 = some (r, M') → ZW E 53 [(0, .ref (zad E 77)), (1, .int a1), (2, .int v31)] [] M36 := by
            intro M36 hf
            unfold zf_X10_report_j53 at hf
            refine zw_iinc hC (v := (1 : Int32)) (lv' := [(2, .int (v31 + (1 : Int32))), (0, .ref (zad E 77)), (1, .int a1)]) dX10_report_53 2 rfl (by decide) hN (by decide) rfl ?_
            refine zw_goto hC 18 dX10_report_56 (by decide) ?_
            exact zw_sub [1, 2, 0] rfl (ih18 (v31 + (1 : Int32)) M36 hf)
          refine zw_if_eq hC 53 hf dX10_report_36 (by decide) (fun hf => ?_) (fun hf => ?_)
          · exact hj53 M32 hf
          · refine zw_aload_n hC dX10_report_39 rfl 0 rfl ?_
            refine zw_ldc2 hC dX10_report_40 kw_8_104 ?_
            refine zw_iload_n hC dX10_report_43 rfl 2 rfl ?_
            refine zw_aload_n hC dX10_report_44 rfl 0 rfl ?_
            refine zw_getr (k' := 86) hC zF_Model_paid zk_77 rfl dX10_report_45 kw_6_12 ?_
            refine zw_iload_n hC dX10_report_48 rfl 2 rfl ?_
            refine zw_iald hC hf zk_86 dX10_report_49 (fun v37 hf => ?_)
            obtain ⟨M38, hcM38, hf⟩ := zb1_some hf
            refine zw_cV hC [.long (315904 : Int64), .int v31, .int v37] [] (st1 := []) zm_X10_spellsTwo (zc_X10_spellsTwo hcM38) zk_77 rfl kw_8_88 dX10_report_50 rfl (by decide) (Nat.le_of_ble_eq_true rfl) rfl rfl ?_
            exact hj53 M38 hf
    refine zw_sub [1, 2, 0] rfl (hL18 _ ?_ n (0 : Int32) M30 hf)
    · intro M39 hf
      refine zw_aload_n hC dX10_report_59 rfl 0 rfl ?_
      refine zw_ldc2 hC dX10_report_60 kw_8_105 ?_
      refine zw_aload_n hC dX10_report_63 rfl 0 rfl ?_
      refine zw_geti hC zF_Model_left zk_77 dX10_report_64 kw_6_15 ?_
      obtain ⟨M40, hcM40, hf⟩ := zb1_some hf
      refine zw_cV hC [.long (279875 : Int64), .int (M39 77 29)] [] (st1 := []) zm_X10_spellsOne (zc_X10_spellsOne hcM40) zk_77 rfl kw_8_72 dX10_report_67 rfl (by decide) (Nat.le_of_ble_eq_true rfl) rfl rfl ?_
      refine zw_aload_n hC dX10_report_70 rfl 0 rfl ?_
      refine zw_iload_n hC dX10_report_71 rfl 1 rfl ?_
      obtain ⟨v41, hc41, hf⟩ := zb1_some hf
      refine zw_cV hC [.int a1] [] (st1 := [.int v41]) zm_X10_spelled (zc_X10_spelled hc41) zk_77 rfl kw_8_96 dX10_report_72 rfl (by decide) (Nat.le_of_ble_eq_true rfl) rfl rfl ?_
      obtain ⟨h1, h2⟩ := Prod.mk.inj (Option.some.inj hf)
      subst h1; subst h2
      exact zw_iret hC hR dX10_report_75
  · refine zw_iconst hC (v := (-1 : Int32)) dX10_report_5 (by decide) ?_
    obtain ⟨h1, h2⟩ := Prod.mk.inj (Option.some.inj hf)
    subst h1; subst h2
    exact zw_iret hC hR dX10_report_6
/-! ClassOfManyModel.conflicts()I -/
theorem dX10_conflicts_0 : decode cX10_conflicts 0 = .ok (.iconst 0, 1) := by decide +kernel
theorem dX10_conflicts_1 : decode cX10_conflicts 1 = .ok (.istore_n 1, 1) := by decide +kernel
theorem dX10_conflicts_2 : decode cX10_conflicts 2 = .ok (.iconst 0, 1) := by decide +kernel
theorem dX10_conflicts_3 : decode cX10_conflicts 3 = .ok (.istore_n 2, 1) := by decide +kernel
theorem dX10_conflicts_4 : decode cX10_conflicts 4 = .ok (.iload_n 2, 1) := by decide +kernel
theorem dX10_conflicts_5 : decode cX10_conflicts 5 = .ok (.aload_n 0, 1) := by decide +kernel
theorem dX10_conflicts_6 : decode cX10_conflicts 6 = .ok (.getfield 7, 3) := by decide +kernel
theorem dX10_conflicts_9 : decode cX10_conflicts 9 = .ok (.iconst 0, 1) := by decide +kernel
theorem dX10_conflicts_10 : decode cX10_conflicts 10 = .ok (.iaload, 1) := by decide +kernel
theorem dX10_conflicts_11 : decode cX10_conflicts 11 = .ok (.if_icmp .ge 24, 3) := by decide +kernel
theorem dX10_conflicts_14 : decode cX10_conflicts 14 = .ok (.iload_n 1, 1) := by decide +kernel
theorem dX10_conflicts_15 : decode cX10_conflicts 15 = .ok (.aload_n 0, 1) := by decide +kernel
theorem dX10_conflicts_16 : decode cX10_conflicts 16 = .ok (.getfield 7, 3) := by decide +kernel
theorem dX10_conflicts_19 : decode cX10_conflicts 19 = .ok (.bipush 63, 2) := by decide +kernel
theorem dX10_conflicts_21 : decode cX10_conflicts 21 = .ok (.iload_n 2, 1) := by decide +kernel
theorem dX10_conflicts_22 : decode cX10_conflicts 22 = .ok (.iadd, 1) := by decide +kernel
theorem dX10_conflicts_23 : decode cX10_conflicts 23 = .ok (.iaload, 1) := by decide +kernel
theorem dX10_conflicts_24 : decode cX10_conflicts 24 = .ok (.invokestatic 262, 3) := by decide +kernel
theorem dX10_conflicts_27 : decode cX10_conflicts 27 = .ok (.iadd, 1) := by decide +kernel
theorem dX10_conflicts_28 : decode cX10_conflicts 28 = .ok (.istore_n 1, 1) := by decide +kernel
theorem dX10_conflicts_29 : decode cX10_conflicts 29 = .ok (.iinc 2 1, 3) := by decide +kernel
theorem dX10_conflicts_32 : decode cX10_conflicts 32 = .ok (.goto (-28), 3) := by decide +kernel
theorem dX10_conflicts_35 : decode cX10_conflicts 35 = .ok (.iload_n 1, 1) := by decide +kernel
theorem dX10_conflicts_36 : decode cX10_conflicts 36 = .ok (.iconst 2, 1) := by decide +kernel
theorem dX10_conflicts_37 : decode cX10_conflicts 37 = .ok (.idiv, 1) := by decide +kernel
theorem dX10_conflicts_38 : decode cX10_conflicts 38 = .ok (.ireturn, 1) := by decide +kernel
theorem zm_X10_conflicts : ZMv "ClassOfManyModel" yX10_conflicts cX10_conflicts 3 (some .int) 0 := ⟨kw_8_113, kw_8_112, kp_121, kw_1_10, by decide +kernel, by decide⟩
def zf_X10_conflicts_L4 (M : ZMem) (n : Nat) (K35 : Int32 → Option (Int32)) : Nat → Int32 → Int32 → Option (Int32)
  | 0, _, _ => none
  | n4 + 1, v24, v25 =>
  zrd M 78 73 (0 : Int32) (fun v27 => (if v27 ≤ v25 then (K35 v24) else zrd M 78 73 ((63 : Int32) + v25) (fun v28 => zb1 (zf_X10_bits n v28) (fun v29 => (zf_X10_conflicts_L4 M n K35 n4 (v24 + v29) (v25 + (1 : Int32)))))))
def zf_X10_conflicts (n : Nat) (M : ZMem) : Option (Int32) :=
  (zf_X10_conflicts_L4 M n (fun v30 => some (v30 / (2 : Int32))) n (0 : Int32) (0 : Int32))
set_option maxHeartbeats 4000000 in
set_option maxRecDepth 100000 in
theorem zc_X10_conflicts {l : Launch} {D : va_G} {ad : Nat → Nat} {cA : Nat → ClassId} {n : Nat} {M : ZMem} {r : Int32} (hf : zf_X10_conflicts n M = some r) : ZCt l D ad cA yX10_conflicts cX10_conflicts 3 (some .int) 2 [.ref (ad 77)] M (some (.int r)) M := by
  refine zct (by decide +kernel) (Nat.le_of_ble_eq_true rfl) (lv := [(0, .ref (ad 77))]) rfl (fun E hl hD had hcA hN hC hR => ?_)
  subst hl; subst hD; subst had; subst hcA
  unfold zf_X10_conflicts at hf
  refine zw_iconst hC (v := (0 : Int32)) dX10_conflicts_0 (by decide) ?_
  refine zw_istore_n hC (lv' := [(1, .int (0 : Int32)), (0, .ref (zad E 77))]) dX10_conflicts_1 rfl hN (by decide) rfl ?_
  refine zw_iconst hC (v := (0 : Int32)) dX10_conflicts_2 (by decide) ?_
  refine zw_istore_n hC (lv' := [(2, .int (0 : Int32)), (1, .int (0 : Int32)), (0, .ref (zad E 77))]) dX10_conflicts_3 rfl hN (by decide) rfl ?_
  have hL4 : ∀ (K35 : Int32 → Option (Int32)), (∀ (v26 : Int32), K35 v26 = some r → ZW E 35 [(1, .int v26)] [] M) → ∀ (n4 : Nat), ∀ (v24 : Int32), ∀ (v25 : Int32), zf_X10_conflicts_L4 M n K35 n4 v24 v25 = some r → ZW E 4 [(0, .ref (zad E 77)), (1, .int v24), (2, .int v25)] [] M := by
    intro K35 hK35
    intro n4
    induction n4 with
    | zero => intro v24 v25 hf; rw [zf_X10_conflicts_L4] at hf; cases hf
    | succ n4 ih4 =>
      intro v24 v25 hf
      rw [zf_X10_conflicts_L4] at hf
      refine zw_iload_n hC dX10_conflicts_4 rfl 2 rfl ?_
      refine zw_aload_n hC dX10_conflicts_5 rfl 0 rfl ?_
      refine zw_getr (k' := 78) hC zF_Model_now zk_77 rfl dX10_conflicts_6 kw_5_227 ?_
      refine zw_iconst hC (v := (0 : Int32)) dX10_conflicts_9 (by decide) ?_
      refine zw_iald hC hf zk_78 dX10_conflicts_10 (fun v27 hf => ?_)
      refine zw_icmp_ge hC 35 hf dX10_conflicts_11 (by decide) (fun hf => ?_) (fun hf => ?_)
      · exact zw_sub [1] rfl (hK35 v24 hf)
      · refine zw_iload_n hC dX10_conflicts_14 rfl 1 rfl ?_
        refine zw_aload_n hC dX10_conflicts_15 rfl 0 rfl ?_
        refine zw_getr (k' := 78) hC zF_Model_now zk_77 rfl dX10_conflicts_16 kw_5_227 ?_
        refine zw_bipush hC (v := (63 : Int32)) dX10_conflicts_19 (by decide) ?_
        refine zw_iload_n hC dX10_conflicts_21 rfl 2 rfl ?_
        refine zw_iadd hC dX10_conflicts_22 ?_
        refine zw_iald hC hf zk_78 dX10_conflicts_23 (fun v28 hf => ?_)
        obtain ⟨v29, hc29, hf⟩ := zb1_some hf
        refine zw_cS hC [.int v28] [.int v24] (st1 := [.int v29, .int v24]) zm_X10_bits (zc_X10_bits hc29) kw_7_21 dX10_conflicts_24 rfl (by decide) (Nat.le_of_ble_eq_true rfl) rfl rfl ?_
        refine zw_iadd hC dX10_conflicts_27 ?_
        refine zw_istore_n hC (lv' := [(1, .int (v24 + v29)), (0, .ref (zad E 77)), (2, .int v25)]) dX10_conflicts_28 rfl hN (by decide) rfl ?_
        refine zw_iinc hC (v := (1 : Int32)) (lv' := [(2, .int (v25 + (1 : Int32))), (1, .int (v24 + v29)), (0, .ref (zad E 77))]) dX10_conflicts_29 2 rfl (by decide) hN (by decide) rfl ?_
        refine zw_goto hC 4 dX10_conflicts_32 (by decide) ?_
        exact zw_sub [2, 1, 0] rfl (ih4 (v24 + v29) (v25 + (1 : Int32)) hf)
  refine zw_sub [2, 1, 0] rfl (hL4 _ ?_ n (0 : Int32) (0 : Int32) hf)
  · intro v30 hf
    refine zw_iload_n hC dX10_conflicts_35 rfl 0 rfl ?_
    refine zw_iconst hC (v := (2 : Int32)) dX10_conflicts_36 (by decide) ?_
    refine zw_idivc hC dX10_conflicts_37 (by decide) ?_
    have h1 := Option.some.inj hf
    subst h1
    exact zw_iret hC hR dX10_conflicts_38
/-! ClassOfManyModel.count(I)I -/
theorem dX10_count_0 : decode cX10_count 0 = .ok (.iload_n 1, 1) := by decide +kernel
theorem dX10_count_1 : decode cX10_count 1 = .ok (.tableswitch 194 0 15 #[79, 86, 93, 98, 106, 113, 121, 126, 149, 157, 157, 157, 170, 179, 184, 189], 79) := by decide +kernel
theorem dX10_count_80 : decode cX10_count 80 = .ok (.aload_n 0, 1) := by decide +kernel
theorem dX10_count_81 : decode cX10_count 81 = .ok (.getfield 7, 3) := by decide +kernel
theorem dX10_count_84 : decode cX10_count 84 = .ok (.iconst 0, 1) := by decide +kernel
theorem dX10_count_85 : decode cX10_count 85 = .ok (.iaload, 1) := by decide +kernel
theorem dX10_count_86 : decode cX10_count 86 = .ok (.ireturn, 1) := by decide +kernel
theorem dX10_count_87 : decode cX10_count 87 = .ok (.aload_n 0, 1) := by decide +kernel
theorem dX10_count_88 : decode cX10_count 88 = .ok (.getfield 7, 3) := by decide +kernel
theorem dX10_count_91 : decode cX10_count 91 = .ok (.iconst 1, 1) := by decide +kernel
theorem dX10_count_92 : decode cX10_count 92 = .ok (.iaload, 1) := by decide +kernel
theorem dX10_count_93 : decode cX10_count 93 = .ok (.ireturn, 1) := by decide +kernel
theorem dX10_count_94 : decode cX10_count 94 = .ok (.aload_n 0, 1) := by decide +kernel
theorem dX10_count_95 : decode cX10_count 95 = .ok (.invokevirtual 376, 3) := by decide +kernel
theorem dX10_count_98 : decode cX10_count 98 = .ok (.ireturn, 1) := by decide +kernel
theorem dX10_count_99 : decode cX10_count 99 = .ok (.aload_n 0, 1) := by decide +kernel
theorem dX10_count_100 : decode cX10_count 100 = .ok (.getfield 7, 3) := by decide +kernel
theorem dX10_count_103 : decode cX10_count 103 = .ok (.bipush 8, 2) := by decide +kernel
theorem dX10_count_105 : decode cX10_count 105 = .ok (.iaload, 1) := by decide +kernel
theorem dX10_count_106 : decode cX10_count 106 = .ok (.ireturn, 1) := by decide +kernel
theorem dX10_count_107 : decode cX10_count 107 = .ok (.aload_n 0, 1) := by decide +kernel
theorem dX10_count_108 : decode cX10_count 108 = .ok (.getfield 7, 3) := by decide +kernel
theorem dX10_count_111 : decode cX10_count 111 = .ok (.iconst 2, 1) := by decide +kernel
theorem dX10_count_112 : decode cX10_count 112 = .ok (.iaload, 1) := by decide +kernel
theorem dX10_count_113 : decode cX10_count 113 = .ok (.ireturn, 1) := by decide +kernel
theorem dX10_count_114 : decode cX10_count 114 = .ok (.aload_n 0, 1) := by decide +kernel
theorem dX10_count_115 : decode cX10_count 115 = .ok (.getfield 7, 3) := by decide +kernel
theorem dX10_count_118 : decode cX10_count 118 = .ok (.bipush 9, 2) := by decide +kernel
theorem dX10_count_120 : decode cX10_count 120 = .ok (.iaload, 1) := by decide +kernel
theorem dX10_count_121 : decode cX10_count 121 = .ok (.ireturn, 1) := by decide +kernel
theorem dX10_count_122 : decode cX10_count 122 = .ok (.aload_n 0, 1) := by decide +kernel
theorem dX10_count_123 : decode cX10_count 123 = .ok (.invokevirtual 250, 3) := by decide +kernel
theorem dX10_count_126 : decode cX10_count 126 = .ok (.ireturn, 1) := by decide +kernel
theorem dX10_count_127 : decode cX10_count 127 = .ok (.aload_n 0, 1) := by decide +kernel
theorem dX10_count_128 : decode cX10_count 128 = .ok (.getfield 7, 3) := by decide +kernel
theorem dX10_count_131 : decode cX10_count 131 = .ok (.bipush 11, 2) := by decide +kernel
theorem dX10_count_133 : decode cX10_count 133 = .ok (.iaload, 1) := by decide +kernel
theorem dX10_count_134 : decode cX10_count 134 = .ok (.ifCond .ge 8, 3) := by decide +kernel
theorem dX10_count_137 : decode cX10_count 137 = .ok (.bipush (-2), 2) := by decide +kernel
theorem dX10_count_139 : decode cX10_count 139 = .ok (.goto 10, 3) := by decide +kernel
theorem dX10_count_142 : decode cX10_count 142 = .ok (.aload_n 0, 1) := by decide +kernel
theorem dX10_count_143 : decode cX10_count 143 = .ok (.getfield 7, 3) := by decide +kernel
theorem dX10_count_146 : decode cX10_count 146 = .ok (.bipush 11, 2) := by decide +kernel
theorem dX10_count_148 : decode cX10_count 148 = .ok (.iaload, 1) := by decide +kernel
theorem dX10_count_149 : decode cX10_count 149 = .ok (.ireturn, 1) := by decide +kernel
theorem dX10_count_150 : decode cX10_count 150 = .ok (.aload_n 0, 1) := by decide +kernel
theorem dX10_count_151 : decode cX10_count 151 = .ok (.getfield 7, 3) := by decide +kernel
theorem dX10_count_154 : decode cX10_count 154 = .ok (.bipush 10, 2) := by decide +kernel
theorem dX10_count_156 : decode cX10_count 156 = .ok (.iaload, 1) := by decide +kernel
theorem dX10_count_157 : decode cX10_count 157 = .ok (.ireturn, 1) := by decide +kernel
theorem dX10_count_158 : decode cX10_count 158 = .ok (.aload_n 0, 1) := by decide +kernel
theorem dX10_count_159 : decode cX10_count 159 = .ok (.getfield 7, 3) := by decide +kernel
theorem dX10_count_162 : decode cX10_count 162 = .ok (.bipush 12, 2) := by decide +kernel
theorem dX10_count_164 : decode cX10_count 164 = .ok (.iload_n 1, 1) := by decide +kernel
theorem dX10_count_165 : decode cX10_count 165 = .ok (.iadd, 1) := by decide +kernel
theorem dX10_count_166 : decode cX10_count 166 = .ok (.bipush 9, 2) := by decide +kernel
theorem dX10_count_168 : decode cX10_count 168 = .ok (.isub, 1) := by decide +kernel
theorem dX10_count_169 : decode cX10_count 169 = .ok (.iaload, 1) := by decide +kernel
theorem dX10_count_170 : decode cX10_count 170 = .ok (.ireturn, 1) := by decide +kernel
theorem dX10_count_171 : decode cX10_count 171 = .ok (.aload_n 0, 1) := by decide +kernel
theorem dX10_count_172 : decode cX10_count 172 = .ok (.aload_n 0, 1) := by decide +kernel
theorem dX10_count_173 : decode cX10_count 173 = .ok (.invokevirtual 223, 3) := by decide +kernel
theorem dX10_count_176 : decode cX10_count 176 = .ok (.invokevirtual 259, 3) := by decide +kernel
theorem dX10_count_179 : decode cX10_count 179 = .ok (.ireturn, 1) := by decide +kernel
theorem dX10_count_180 : decode cX10_count 180 = .ok (.aload_n 0, 1) := by decide +kernel
theorem dX10_count_181 : decode cX10_count 181 = .ok (.getfield 188, 3) := by decide +kernel
theorem dX10_count_184 : decode cX10_count 184 = .ok (.ireturn, 1) := by decide +kernel
theorem dX10_count_185 : decode cX10_count 185 = .ok (.aload_n 0, 1) := by decide +kernel
theorem dX10_count_186 : decode cX10_count 186 = .ok (.getfield 69, 3) := by decide +kernel
theorem dX10_count_189 : decode cX10_count 189 = .ok (.ireturn, 1) := by decide +kernel
theorem dX10_count_190 : decode cX10_count 190 = .ok (.aload_n 0, 1) := by decide +kernel
theorem dX10_count_191 : decode cX10_count 191 = .ok (.getfield 185, 3) := by decide +kernel
theorem dX10_count_194 : decode cX10_count 194 = .ok (.ireturn, 1) := by decide +kernel
theorem dX10_count_195 : decode cX10_count 195 = .ok (.iconst (-1), 1) := by decide +kernel
theorem dX10_count_196 : decode cX10_count 196 = .ok (.ireturn, 1) := by decide +kernel
theorem zm_X10_count : ZMv "ClassOfManyModel" yX10_count cX10_count 2 (some .int) 1 := ⟨kw_8_109, kw_8_107, kw_8_108, kw_1_10, by decide +kernel, by decide⟩
def zf_X10_count_j149 (v42 : Int32) : Option (Int32) :=
  some v42
def zf_X10_count (n : Nat) (a1 : Int32) (M : ZMem) : Option (Int32) :=
  (if a1 = (0 : Int32) then zrd M 78 73 (0 : Int32) (fun v34 => some v34) else (if a1 = (1 : Int32) then zrd M 78 73 (1 : Int32) (fun v35 => some v35) else (if a1 = (2 : Int32) then zb1 (zf_X10_conflicts n M) (fun v36 => some v36) else (if a1 = (3 : Int32) then zrd M 78 73 (8 : Int32) (fun v37 => some v37) else (if a1 = (4 : Int32) then zrd M 78 73 (2 : Int32) (fun v38 => some v38) else (if a1 = (5 : Int32) then zrd M 78 73 (9 : Int32) (fun v39 => some v39) else (if a1 = (6 : Int32) then zb1 (zf_X10_costs n M) (fun v40 => some v40) else (if a1 = (7 : Int32) then zrd M 78 73 (11 : Int32) (fun v41 => (if 0 ≤ v41 then zrd M 78 73 (11 : Int32) (fun v43 => (zf_X10_count_j149 v43)) else (zf_X10_count_j149 (-2 : Int32)))) else (if a1 = (8 : Int32) then zrd M 78 73 (10 : Int32) (fun v44 => some v44) else (if a1 = (9 : Int32) then zrd M 78 73 (((12 : Int32) + a1) - (9 : Int32)) (fun v45 => some v45) else (if a1 = (10 : Int32) then zrd M 78 73 (((12 : Int32) + a1) - (9 : Int32)) (fun v46 => some v46) else (if a1 = (11 : Int32) then zrd M 78 73 (((12 : Int32) + a1) - (9 : Int32)) (fun v47 => some v47) else (if a1 = (12 : Int32) then zb1 (zf_X10_all M) (fun v48 => zb1 (zf_X10_claims n v48 M) (fun v49 => some v49)) else (if a1 = (13 : Int32) then some (M 77 4) else (if a1 = (14 : Int32) then some (M 77 6) else (if a1 = (15 : Int32) then some (M 77 16) else some (-1 : Int32)))))))))))))))))
set_option maxHeartbeats 4000000 in
set_option maxRecDepth 100000 in
theorem zc_X10_count {l : Launch} {D : va_G} {ad : Nat → Nat} {cA : Nat → ClassId} {n : Nat} {a1 : Int32} {M : ZMem} {r : Int32} (hf : zf_X10_count n a1 M = some r) : ZCt l D ad cA yX10_count cX10_count 2 (some .int) 4 [.ref (ad 77), .int a1] M (some (.int r)) M := by
  refine zct (by decide +kernel) (Nat.le_of_ble_eq_true rfl) (lv := [(0, .ref (ad 77)), (1, .int a1)]) rfl (fun E hl hD had hcA hN hC hR => ?_)
  subst hl; subst hD; subst had; subst hcA
  unfold zf_X10_count at hf
  refine zw_iload_n hC dX10_count_0 rfl 1 rfl ?_
  by_cases hx1_0 : a1 = (0 : Int32)
  · rw [if_pos hx1_0] at hf
    refine zw_tin hC hx1_0 (tgt := 80) dX10_count_1 (by decide) (by decide) rfl (by decide) ?_
    refine zw_aload_n hC dX10_count_80 rfl 0 rfl ?_
    refine zw_getr (k' := 78) hC zF_Model_now zk_77 rfl dX10_count_81 kw_5_227 ?_
    refine zw_iconst hC (v := (0 : Int32)) dX10_count_84 (by decide) ?_
    refine zw_iald hC hf zk_78 dX10_count_85 (fun v34 hf => ?_)
    have h1 := Option.some.inj hf
    subst h1
    exact zw_iret hC hR dX10_count_86
  rw [if_neg hx1_0] at hf
  by_cases hx1_1 : a1 = (1 : Int32)
  · rw [if_pos hx1_1] at hf
    refine zw_tin hC hx1_1 (tgt := 87) dX10_count_1 (by decide) (by decide) rfl (by decide) ?_
    refine zw_aload_n hC dX10_count_87 rfl 0 rfl ?_
    refine zw_getr (k' := 78) hC zF_Model_now zk_77 rfl dX10_count_88 kw_5_227 ?_
    refine zw_iconst hC (v := (1 : Int32)) dX10_count_91 (by decide) ?_
    refine zw_iald hC hf zk_78 dX10_count_92 (fun v35 hf => ?_)
    have h1 := Option.some.inj hf
    subst h1
    exact zw_iret hC hR dX10_count_93
  rw [if_neg hx1_1] at hf
  by_cases hx1_2 : a1 = (2 : Int32)
  · rw [if_pos hx1_2] at hf
    refine zw_tin hC hx1_2 (tgt := 94) dX10_count_1 (by decide) (by decide) rfl (by decide) ?_
    refine zw_aload_n hC dX10_count_94 rfl 0 rfl ?_
    obtain ⟨v36, hc36, hf⟩ := zb1_some hf
    refine zw_cV hC [] [] (st1 := [.int v36]) zm_X10_conflicts (zc_X10_conflicts hc36) zk_77 rfl kw_8_110 dX10_count_95 rfl (by decide) (Nat.le_of_ble_eq_true rfl) rfl rfl ?_
    have h1 := Option.some.inj hf
    subst h1
    exact zw_iret hC hR dX10_count_98
  rw [if_neg hx1_2] at hf
  by_cases hx1_3 : a1 = (3 : Int32)
  · rw [if_pos hx1_3] at hf
    refine zw_tin hC hx1_3 (tgt := 99) dX10_count_1 (by decide) (by decide) rfl (by decide) ?_
    refine zw_aload_n hC dX10_count_99 rfl 0 rfl ?_
    refine zw_getr (k' := 78) hC zF_Model_now zk_77 rfl dX10_count_100 kw_5_227 ?_
    refine zw_bipush hC (v := (8 : Int32)) dX10_count_103 (by decide) ?_
    refine zw_iald hC hf zk_78 dX10_count_105 (fun v37 hf => ?_)
    have h1 := Option.some.inj hf
    subst h1
    exact zw_iret hC hR dX10_count_106
  rw [if_neg hx1_3] at hf
  by_cases hx1_4 : a1 = (4 : Int32)
  · rw [if_pos hx1_4] at hf
    refine zw_tin hC hx1_4 (tgt := 107) dX10_count_1 (by decide) (by decide) rfl (by decide) ?_
    refine zw_aload_n hC dX10_count_107 rfl 0 rfl ?_
    refine zw_getr (k' := 78) hC zF_Model_now zk_77 rfl dX10_count_108 kw_5_227 ?_
    refine zw_iconst hC (v := (2 : Int32)) dX10_count_111 (by decide) ?_
    refine zw_iald hC hf zk_78 dX10_count_112 (fun v38 hf => ?_)
    have h1 := Option.some.inj hf
    subst h1
    exact zw_iret hC hR dX10_count_113
  rw [if_neg hx1_4] at hf
  by_cases hx1_5 : a1 = (5 : Int32)
  · rw [if_pos hx1_5] at hf
    refine zw_tin hC hx1_5 (tgt := 114) dX10_count_1 (by decide) (by decide) rfl (by decide) ?_
    refine zw_aload_n hC dX10_count_114 rfl 0 rfl ?_
    refine zw_getr (k' := 78) hC zF_Model_now zk_77 rfl dX10_count_115 kw_5_227 ?_
    refine zw_bipush hC (v := (9 : Int32)) dX10_count_118 (by decide) ?_
    refine zw_iald hC hf zk_78 dX10_count_120 (fun v39 hf => ?_)
    have h1 := Option.some.inj hf
    subst h1
    exact zw_iret hC hR dX10_count_121
  rw [if_neg hx1_5] at hf
  by_cases hx1_6 : a1 = (6 : Int32)
  · rw [if_pos hx1_6] at hf
    refine zw_tin hC hx1_6 (tgt := 122) dX10_count_1 (by decide) (by decide) rfl (by decide) ?_
    refine zw_aload_n hC dX10_count_122 rfl 0 rfl ?_
    obtain ⟨v40, hc40, hf⟩ := zb1_some hf
    refine zw_cV hC [] [] (st1 := [.int v40]) zm_X10_costs (zc_X10_costs hc40) zk_77 rfl kw_6_233 dX10_count_123 rfl (by decide) (Nat.le_of_ble_eq_true rfl) rfl rfl ?_
    have h1 := Option.some.inj hf
    subst h1
    exact zw_iret hC hR dX10_count_126
  rw [if_neg hx1_6] at hf
  by_cases hx1_7 : a1 = (7 : Int32)
  · rw [if_pos hx1_7] at hf
    refine zw_tin hC hx1_7 (tgt := 127) dX10_count_1 (by decide) (by decide) rfl (by decide) ?_
    refine zw_aload_n hC dX10_count_127 rfl 0 rfl ?_
    refine zw_getr (k' := 78) hC zF_Model_now zk_77 rfl dX10_count_128 kw_5_227 ?_
    refine zw_bipush hC (v := (11 : Int32)) dX10_count_131 (by decide) ?_
    refine zw_iald hC hf zk_78 dX10_count_133 (fun v41 hf => ?_)
    have hj149 : ∀ (v42 : Int32), zf_X10_count_j149 v42 = some r → ZW E 149 [] [.int v42] M := by
      intro v42 hf
      unfold zf_X10_count_j149 at hf
      have h1 := Option.some.inj hf
      subst h1
      exact zw_iret hC hR dX10_count_149
    refine zw_if_ge hC 142 hf dX10_count_134 (by decide) (fun hf => ?_) (fun hf => ?_)
    · refine zw_aload_n hC dX10_count_142 rfl 0 rfl ?_
      refine zw_getr (k' := 78) hC zF_Model_now zk_77 rfl dX10_count_143 kw_5_227 ?_
      refine zw_bipush hC (v := (11 : Int32)) dX10_count_146 (by decide) ?_
      refine zw_iald hC hf zk_78 dX10_count_148 (fun v43 hf => ?_)
      exact zw_sub [] rfl (hj149 v43 hf)
    · refine zw_bipush hC (v := (-2 : Int32)) dX10_count_137 (by decide) ?_
      refine zw_goto hC 149 dX10_count_139 (by decide) ?_
      exact zw_sub [] rfl (hj149 (-2 : Int32) hf)
  rw [if_neg hx1_7] at hf
  by_cases hx1_8 : a1 = (8 : Int32)
  · rw [if_pos hx1_8] at hf
    refine zw_tin hC hx1_8 (tgt := 150) dX10_count_1 (by decide) (by decide) rfl (by decide) ?_
    refine zw_aload_n hC dX10_count_150 rfl 0 rfl ?_
    refine zw_getr (k' := 78) hC zF_Model_now zk_77 rfl dX10_count_151 kw_5_227 ?_
    refine zw_bipush hC (v := (10 : Int32)) dX10_count_154 (by decide) ?_
    refine zw_iald hC hf zk_78 dX10_count_156 (fun v44 hf => ?_)
    have h1 := Option.some.inj hf
    subst h1
    exact zw_iret hC hR dX10_count_157
  rw [if_neg hx1_8] at hf
  by_cases hx1_9 : a1 = (9 : Int32)
  · rw [if_pos hx1_9] at hf
    refine zw_tin hC hx1_9 (tgt := 158) dX10_count_1 (by decide) (by decide) rfl (by decide) ?_
    refine zw_aload_n hC dX10_count_158 rfl 0 rfl ?_
    refine zw_getr (k' := 78) hC zF_Model_now zk_77 rfl dX10_count_159 kw_5_227 ?_
    refine zw_bipush hC (v := (12 : Int32)) dX10_count_162 (by decide) ?_
    refine zw_iload_n hC dX10_count_164 rfl 1 rfl ?_
    refine zw_iadd hC dX10_count_165 ?_
    refine zw_bipush hC (v := (9 : Int32)) dX10_count_166 (by decide) ?_
    refine zw_isub hC dX10_count_168 ?_
    refine zw_iald hC hf zk_78 dX10_count_169 (fun v45 hf => ?_)
    have h1 := Option.some.inj hf
    subst h1
    exact zw_iret hC hR dX10_count_170
  rw [if_neg hx1_9] at hf
  by_cases hx1_10 : a1 = (10 : Int32)
  · rw [if_pos hx1_10] at hf
    refine zw_tin hC hx1_10 (tgt := 158) dX10_count_1 (by decide) (by decide) rfl (by decide) ?_
    refine zw_aload_n hC dX10_count_158 rfl 0 rfl ?_
    refine zw_getr (k' := 78) hC zF_Model_now zk_77 rfl dX10_count_159 kw_5_227 ?_
    refine zw_bipush hC (v := (12 : Int32)) dX10_count_162 (by decide) ?_
    refine zw_iload_n hC dX10_count_164 rfl 1 rfl ?_
    refine zw_iadd hC dX10_count_165 ?_
    refine zw_bipush hC (v := (9 : Int32)) dX10_count_166 (by decide) ?_
    refine zw_isub hC dX10_count_168 ?_
    refine zw_iald hC hf zk_78 dX10_count_169 (fun v46 hf => ?_)
    have h1 := Option.some.inj hf
    subst h1
    exact zw_iret hC hR dX10_count_170
  rw [if_neg hx1_10] at hf
  by_cases hx1_11 : a1 = (11 : Int32)
  · rw [if_pos hx1_11] at hf
    refine zw_tin hC hx1_11 (tgt := 158) dX10_count_1 (by decide) (by decide) rfl (by decide) ?_
    refine zw_aload_n hC dX10_count_158 rfl 0 rfl ?_
    refine zw_getr (k' := 78) hC zF_Model_now zk_77 rfl dX10_count_159 kw_5_227 ?_
    refine zw_bipush hC (v := (12 : Int32)) dX10_count_162 (by decide) ?_
    refine zw_iload_n hC dX10_count_164 rfl 1 rfl ?_
    refine zw_iadd hC dX10_count_165 ?_
    refine zw_bipush hC (v := (9 : Int32)) dX10_count_166 (by decide) ?_
    refine zw_isub hC dX10_count_168 ?_
    refine zw_iald hC hf zk_78 dX10_count_169 (fun v47 hf => ?_)
    have h1 := Option.some.inj hf
    subst h1
    exact zw_iret hC hR dX10_count_170
  rw [if_neg hx1_11] at hf
  by_cases hx1_12 : a1 = (12 : Int32)
  · rw [if_pos hx1_12] at hf
    refine zw_tin hC hx1_12 (tgt := 171) dX10_count_1 (by decide) (by decide) rfl (by decide) ?_
    refine zw_aload_n hC dX10_count_171 rfl 0 rfl ?_
    refine zw_aload_n hC dX10_count_172 rfl 0 rfl ?_
    obtain ⟨v48, hc48, hf⟩ := zb1_some hf
    refine zw_cV hC [] [.ref (zad E 77)] (st1 := [.int v48, .ref (zad E 77)]) zm_X10_all (zc_X10_all hc48) zk_77 rfl kw_7_44 dX10_count_173 rfl (by decide) (Nat.le_of_ble_eq_true rfl) rfl rfl ?_
    obtain ⟨v49, hc49, hf⟩ := zb1_some hf
    refine zw_cV hC [.int v48] [] (st1 := [.int v49]) zm_X10_claims (zc_X10_claims hc49) zk_77 rfl kw_7_48 dX10_count_176 rfl (by decide) (Nat.le_of_ble_eq_true rfl) rfl rfl ?_
    have h1 := Option.some.inj hf
    subst h1
    exact zw_iret hC hR dX10_count_179
  rw [if_neg hx1_12] at hf
  by_cases hx1_13 : a1 = (13 : Int32)
  · rw [if_pos hx1_13] at hf
    refine zw_tin hC hx1_13 (tgt := 180) dX10_count_1 (by decide) (by decide) rfl (by decide) ?_
    refine zw_aload_n hC dX10_count_180 rfl 0 rfl ?_
    refine zw_geti hC zF_Model_undoMany zk_77 dX10_count_181 kw_5_230 ?_
    have h1 := Option.some.inj hf
    subst h1
    exact zw_iret hC hR dX10_count_184
  rw [if_neg hx1_13] at hf
  by_cases hx1_14 : a1 = (14 : Int32)
  · rw [if_pos hx1_14] at hf
    refine zw_tin hC hx1_14 (tgt := 185) dX10_count_1 (by decide) (by decide) rfl (by decide) ?_
    refine zw_aload_n hC dX10_count_185 rfl 0 rfl ?_
    refine zw_geti hC zF_Model_taped zk_77 dX10_count_186 kw_5_232 ?_
    have h1 := Option.some.inj hf
    subst h1
    exact zw_iret hC hR dX10_count_189
  rw [if_neg hx1_14] at hf
  by_cases hx1_15 : a1 = (15 : Int32)
  · rw [if_pos hx1_15] at hf
    refine zw_tin hC hx1_15 (tgt := 190) dX10_count_1 (by decide) (by decide) rfl (by decide) ?_
    refine zw_aload_n hC dX10_count_190 rfl 0 rfl ?_
    refine zw_geti hC zF_Model_lines zk_77 dX10_count_191 kw_6_2 ?_
    have h1 := Option.some.inj hf
    subst h1
    exact zw_iret hC hR dX10_count_194
  rw [if_neg hx1_15] at hf
  refine zw_tout hC (tgt := 195) dX10_count_1 (ztout (n := 15) (fun k hk => by match k, hk with | 0, _ => exact hx1_0 | 1, _ => exact hx1_1 | 2, _ => exact hx1_2 | 3, _ => exact hx1_3 | 4, _ => exact hx1_4 | 5, _ => exact hx1_5 | 6, _ => exact hx1_6 | 7, _ => exact hx1_7 | 8, _ => exact hx1_8 | 9, _ => exact hx1_9 | 10, _ => exact hx1_10 | 11, _ => exact hx1_11 | 12, _ => exact hx1_12 | 13, _ => exact hx1_13 | 14, _ => exact hx1_14 | 15, _ => exact hx1_15 | k + 16, hk => exact absurd hk (by omega))) (by decide) ?_
  refine zw_iconst hC (v := (-1 : Int32)) dX10_count_195 (by decide) ?_
  have h1 := Option.some.inj hf
  subst h1
  exact zw_iret hC hR dX10_count_196
