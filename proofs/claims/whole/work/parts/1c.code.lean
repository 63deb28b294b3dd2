/-! Reader.readChannel()V -/
theorem dX4_readChannel_0 : decode cX4_readChannel 0 = .ok (.aload_n 0, 1) := by decide +kernel
theorem dX4_readChannel_1 : decode cX4_readChannel 1 = .ok (.iconst 0, 1) := by decide +kernel
theorem dX4_readChannel_2 : decode cX4_readChannel 2 = .ok (.bipush 99, 2) := by decide +kernel
theorem dX4_readChannel_4 : decode cX4_readChannel 4 = .ok (.invokevirtual 77, 3) := by decide +kernel
theorem dX4_readChannel_7 : decode cX4_readChannel 7 = .ok (.istore_n 1, 1) := by decide +kernel
theorem dX4_readChannel_8 : decode cX4_readChannel 8 = .ok (.aload_n 0, 1) := by decide +kernel
theorem dX4_readChannel_9 : decode cX4_readChannel 9 = .ok (.iconst 1, 1) := by decide +kernel
theorem dX4_readChannel_10 : decode cX4_readChannel 10 = .ok (.bipush 30, 2) := by decide +kernel
theorem dX4_readChannel_12 : decode cX4_readChannel 12 = .ok (.invokevirtual 77, 3) := by decide +kernel
theorem dX4_readChannel_15 : decode cX4_readChannel 15 = .ok (.istore_n 2, 1) := by decide +kernel
theorem dX4_readChannel_16 : decode cX4_readChannel 16 = .ok (.aload_n 0, 1) := by decide +kernel
theorem dX4_readChannel_17 : decode cX4_readChannel 17 = .ok (.invokevirtual 49, 3) := by decide +kernel
theorem dX4_readChannel_20 : decode cX4_readChannel 20 = .ok (.ifCond .eq 48, 3) := by decide +kernel
theorem dX4_readChannel_23 : decode cX4_readChannel 23 = .ok (.aload_n 0, 1) := by decide +kernel
theorem dX4_readChannel_24 : decode cX4_readChannel 24 = .ok (.getfield 18, 3) := by decide +kernel
theorem dX4_readChannel_27 : decode cX4_readChannel 27 = .ok (.getfield 136, 3) := by decide +kernel
theorem dX4_readChannel_30 : decode cX4_readChannel 30 = .ok (.aload_n 0, 1) := by decide +kernel
theorem dX4_readChannel_31 : decode cX4_readChannel 31 = .ok (.getfield 18, 3) := by decide +kernel
theorem dX4_readChannel_34 : decode cX4_readChannel 34 = .ok (.getfield 56, 3) := by decide +kernel
theorem dX4_readChannel_37 : decode cX4_readChannel 37 = .ok (.iload_n 1, 1) := by decide +kernel
theorem dX4_readChannel_38 : decode cX4_readChannel 38 = .ok (.iastore, 1) := by decide +kernel
theorem dX4_readChannel_39 : decode cX4_readChannel 39 = .ok (.aload_n 0, 1) := by decide +kernel
theorem dX4_readChannel_40 : decode cX4_readChannel 40 = .ok (.getfield 18, 3) := by decide +kernel
theorem dX4_readChannel_43 : decode cX4_readChannel 43 = .ok (.getfield 139, 3) := by decide +kernel
theorem dX4_readChannel_46 : decode cX4_readChannel 46 = .ok (.aload_n 0, 1) := by decide +kernel
theorem dX4_readChannel_47 : decode cX4_readChannel 47 = .ok (.getfield 18, 3) := by decide +kernel
theorem dX4_readChannel_50 : decode cX4_readChannel 50 = .ok (.getfield 56, 3) := by decide +kernel
theorem dX4_readChannel_53 : decode cX4_readChannel 53 = .ok (.iload_n 2, 1) := by decide +kernel
theorem dX4_readChannel_54 : decode cX4_readChannel 54 = .ok (.iastore, 1) := by decide +kernel
theorem dX4_readChannel_55 : decode cX4_readChannel 55 = .ok (.aload_n 0, 1) := by decide +kernel
theorem dX4_readChannel_56 : decode cX4_readChannel 56 = .ok (.getfield 18, 3) := by decide +kernel
theorem dX4_readChannel_59 : decode cX4_readChannel 59 = .ok (.dup, 1) := by decide +kernel
theorem dX4_readChannel_60 : decode cX4_readChannel 60 = .ok (.getfield 56, 3) := by decide +kernel
theorem dX4_readChannel_63 : decode cX4_readChannel 63 = .ok (.iconst 1, 1) := by decide +kernel
theorem dX4_readChannel_64 : decode cX4_readChannel 64 = .ok (.iadd, 1) := by decide +kernel
theorem dX4_readChannel_65 : decode cX4_readChannel 65 = .ok (.putfield 56, 3) := by decide +kernel
theorem dX4_readChannel_68 : decode cX4_readChannel 68 = .ok (.return_, 1) := by decide +kernel
theorem zm_X4_readChannel : ZMv "ClassOfMany$Reader" yX4_readChannel cX4_readChannel 3 (none) 0 := ⟨kw_3_109, kw_3_108, kp_12, kw_1_5, by decide +kernel, by decide⟩
def zf_X4_readChannel_j68 (M39 : ZMem) : Option (ZMem) :=
  some M39
def zf_X4_readChannel (n : Nat) (M : ZMem) : Option (ZMem) :=
  zb2 (zf_X4_readNumber n (0 : Int32) (99 : Int32) M) (fun v34 M35 => zb2 (zf_X4_readNumber n (1 : Int32) (30 : Int32) M35) (fun v36 M37 => zb1 (zf_X4_isRight M37) (fun v38 => (if v38 = 0 then (zf_X4_readChannel_j68 M37) else zdy M37 42 6 (7, 17) (fun o40 => zdy M37 42 6 (7, 17) (fun o41 => zst M37 (o40 + 5) 4 (M37 o41 1) v34 (fun M42 => zdy M42 42 6 (7, 17) (fun o43 => zdy M42 42 6 (7, 17) (fun o44 => zst M42 (o43 + 6) 4 (M42 o44 1) v36 (fun M45 => zdy M45 42 6 (7, 17) (fun o46 => zput M45 o46 1 ((M45 o46 1) + (1 : Int32)) (fun M47 => (zf_X4_readChannel_j68 M47)))))))))))))
set_option maxHeartbeats 4000000 in
set_option maxRecDepth 100000 in
theorem zc_X4_readChannel {l : Launch} {D : va_G} {ad : Nat → Nat} {cA : Nat → ClassId} {n : Nat} {M : ZMem} {M' : ZMem} (hf : zf_X4_readChannel n M = some M') : ZCt l D ad cA yX4_readChannel cX4_readChannel 3 (none) 3 [.ref (ad 42)] M none M' := by
  refine zct (by decide +kernel) (Nat.le_of_ble_eq_true rfl) (lv := [(0, .ref (ad 42))]) rfl (fun E hl hD had hcA hN hC hR => ?_)
  subst hl; subst hD; subst had; subst hcA
  unfold zf_X4_readChannel at hf
  refine zw_aload_n hC dX4_readChannel_0 rfl 0 rfl ?_
  refine zw_iconst hC (v := (0 : Int32)) dX4_readChannel_1 (by decide) ?_
  refine zw_bipush hC (v := (99 : Int32)) dX4_readChannel_2 (by decide) ?_
  obtain ⟨v34, M35, hcM35, hf⟩ := zb2_some hf
  refine zw_cV hC [.int (0 : Int32), .int (99 : Int32)] [] (st1 := [.int v34]) zm_X4_readNumber (zc_X4_readNumber hcM35) zk_42 rfl kw_3_90 dX4_readChannel_4 rfl (by decide) (Nat.le_of_ble_eq_true rfl) rfl rfl ?_
  refine zw_istore_n hC (lv' := [(1, .int v34), (0, .ref (zad E 42))]) dX4_readChannel_7 rfl hN (by decide) rfl ?_
  refine zw_aload_n hC dX4_readChannel_8 rfl 1 rfl ?_
  refine zw_iconst hC (v := (1 : Int32)) dX4_readChannel_9 (by decide) ?_
  refine zw_bipush hC (v := (30 : Int32)) dX4_readChannel_10 (by decide) ?_
  obtain ⟨v36, M37, hcM37, hf⟩ := zb2_some hf
  refine zw_cV hC [.int (1 : Int32), .int (30 : Int32)] [] (st1 := [.int v36]) zm_X4_readNumber (zc_X4_readNumber hcM37) zk_42 rfl kw_3_90 dX4_readChannel_12 rfl (by decide) (Nat.le_of_ble_eq_true rfl) rfl rfl ?_
  refine zw_istore_n hC (lv' := [(2, .int v36), (1, .int v34), (0, .ref (zad E 42))]) dX4_readChannel_15 rfl hN (by decide) rfl ?_
  refine zw_aload_n hC dX4_readChannel_16 rfl 2 rfl ?_
  obtain ⟨v38, hc38, hf⟩ := zb1_some hf
  refine zw_cV hC [] [] (st1 := [.int v38]) zm_X4_isRight (zc_X4_isRight hc38) zk_42 rfl kw_2_231 dX4_readChannel_17 rfl (by decide) (Nat.le_of_ble_eq_true rfl) rfl rfl ?_
  have hj68 : ∀ (M39 : ZMem), zf_X4_readChannel_j68 M39 = some M' → ZW E 68 [] [] M39 := by
    intro M39 hf
    unfold zf_X4_readChannel_j68 at hf
    have h1 := Option.some.inj hf
    subst h1
    exact zw_vret hC hR dX4_readChannel_68
  refine zw_if_eq hC 68 hf dX4_readChannel_20 (by decide) (fun hf => ?_) (fun hf => ?_)
  · exact zw_sub [] rfl (hj68 M37 hf)
  · refine zw_aload_n hC dX4_readChannel_23 rfl 2 rfl ?_
    refine zw_getd hC hf zF_Reader_told zk_42 dX4_readChannel_24 kw_1_234 (fun o40 ho40 hf => ?_)
    refine zw_getr (k' := (o40 + 5)) hC zF_Told_cost ho40 rfl dX4_readChannel_27 kw_1_63 ?_
    refine zw_aload_n hC dX4_readChannel_30 rfl 2 rfl ?_
    refine zw_getd hC hf zF_Reader_told zk_42 dX4_readChannel_31 kw_1_234 (fun o41 ho41 hf => ?_)
    refine zw_geti hC zF_Told_channels ho41 dX4_readChannel_34 kw_1_42 ?_
    refine zw_iload_n hC dX4_readChannel_37 rfl 1 rfl ?_
    refine zw_iast hC hf (zko_7_5 ho40) dX4_readChannel_38 (fun M42 hf => ?_)
    refine zw_aload_n hC dX4_readChannel_39 rfl 2 rfl ?_
    refine zw_getd hC hf zF_Reader_told zk_42 dX4_readChannel_40 kw_1_234 (fun o43 ho43 hf => ?_)
    refine zw_getr (k' := (o43 + 6)) hC zF_Told_wait ho43 rfl dX4_readChannel_43 kw_1_67 ?_
    refine zw_aload_n hC dX4_readChannel_46 rfl 2 rfl ?_
    refine zw_getd hC hf zF_Reader_told zk_42 dX4_readChannel_47 kw_1_234 (fun o44 ho44 hf => ?_)
    refine zw_geti hC zF_Told_channels ho44 dX4_readChannel_50 kw_1_42 ?_
    refine zw_iload_n hC dX4_readChannel_53 rfl 0 rfl ?_
    refine zw_iast hC hf (zko_7_6 ho43) dX4_readChannel_54 (fun M45 hf => ?_)
    refine zw_aload_n hC dX4_readChannel_55 rfl 2 rfl ?_
    refine zw_getd hC hf zF_Reader_told zk_42 dX4_readChannel_56 kw_1_234 (fun o46 ho46 hf => ?_)
    refine zw_dup hC dX4_readChannel_59 rfl ?_
    refine zw_geti hC zF_Told_channels ho46 dX4_readChannel_60 kw_1_42 ?_
    refine zw_iconst hC (v := (1 : Int32)) dX4_readChannel_63 (by decide) ?_
    refine zw_iadd hC dX4_readChannel_64 ?_
    refine zw_puti hC hf zF_Told_channels ho46 dX4_readChannel_65 kw_1_42 (fun M47 hf => ?_)
    exact zw_sub [] rfl (hj68 M47 hf)
/-! Reader.readConflict()V -/
theorem dX4_readConflict_0 : decode cX4_readConflict 0 = .ok (.aload_n 0, 1) := by decide +kernel
theorem dX4_readConflict_1 : decode cX4_readConflict 1 = .ok (.iconst 0, 1) := by decide +kernel
theorem dX4_readConflict_2 : decode cX4_readConflict 2 = .ok (.aload_n 0, 1) := by decide +kernel
theorem dX4_readConflict_3 : decode cX4_readConflict 3 = .ok (.getfield 18, 3) := by decide +kernel
theorem dX4_readConflict_6 : decode cX4_readConflict 6 = .ok (.getfield 133, 3) := by decide +kernel
theorem dX4_readConflict_9 : decode cX4_readConflict 9 = .ok (.iconst 1, 1) := by decide +kernel
theorem dX4_readConflict_10 : decode cX4_readConflict 10 = .ok (.isub, 1) := by decide +kernel
theorem dX4_readConflict_11 : decode cX4_readConflict 11 = .ok (.invokevirtual 77, 3) := by decide +kernel
theorem dX4_readConflict_14 : decode cX4_readConflict 14 = .ok (.istore_n 1, 1) := by decide +kernel
theorem dX4_readConflict_15 : decode cX4_readConflict 15 = .ok (.aload_n 0, 1) := by decide +kernel
theorem dX4_readConflict_16 : decode cX4_readConflict 16 = .ok (.iconst 0, 1) := by decide +kernel
theorem dX4_readConflict_17 : decode cX4_readConflict 17 = .ok (.aload_n 0, 1) := by decide +kernel
theorem dX4_readConflict_18 : decode cX4_readConflict 18 = .ok (.getfield 18, 3) := by decide +kernel
theorem dX4_readConflict_21 : decode cX4_readConflict 21 = .ok (.getfield 133, 3) := by decide +kernel
theorem dX4_readConflict_24 : decode cX4_readConflict 24 = .ok (.iconst 1, 1) := by decide +kernel
theorem dX4_readConflict_25 : decode cX4_readConflict 25 = .ok (.isub, 1) := by decide +kernel
theorem dX4_readConflict_26 : decode cX4_readConflict 26 = .ok (.invokevirtual 77, 3) := by decide +kernel
theorem dX4_readConflict_29 : decode cX4_readConflict 29 = .ok (.istore_n 2, 1) := by decide +kernel
theorem dX4_readConflict_30 : decode cX4_readConflict 30 = .ok (.aload_n 0, 1) := by decide +kernel
theorem dX4_readConflict_31 : decode cX4_readConflict 31 = .ok (.invokevirtual 49, 3) := by decide +kernel
theorem dX4_readConflict_34 : decode cX4_readConflict 34 = .ok (.ifCond .ne 4, 3) := by decide +kernel
theorem dX4_readConflict_37 : decode cX4_readConflict 37 = .ok (.return_, 1) := by decide +kernel
theorem dX4_readConflict_38 : decode cX4_readConflict 38 = .ok (.iload_n 1, 1) := by decide +kernel
theorem dX4_readConflict_39 : decode cX4_readConflict 39 = .ok (.iload_n 2, 1) := by decide +kernel
theorem dX4_readConflict_40 : decode cX4_readConflict 40 = .ok (.if_icmp .eq 19, 3) := by decide +kernel
theorem dX4_readConflict_43 : decode cX4_readConflict 43 = .ok (.aload_n 0, 1) := by decide +kernel
theorem dX4_readConflict_44 : decode cX4_readConflict 44 = .ok (.getfield 25, 3) := by decide +kernel
theorem dX4_readConflict_47 : decode cX4_readConflict 47 = .ok (.getfield 171, 3) := by decide +kernel
theorem dX4_readConflict_50 : decode cX4_readConflict 50 = .ok (.iload_n 1, 1) := by decide +kernel
theorem dX4_readConflict_51 : decode cX4_readConflict 51 = .ok (.iaload, 1) := by decide +kernel
theorem dX4_readConflict_52 : decode cX4_readConflict 52 = .ok (.iload_n 2, 1) := by decide +kernel
theorem dX4_readConflict_53 : decode cX4_readConflict 53 = .ok (.invokestatic 129, 3) := by decide +kernel
theorem dX4_readConflict_56 : decode cX4_readConflict 56 = .ok (.ifCond .eq 12, 3) := by decide +kernel
theorem dX4_readConflict_59 : decode cX4_readConflict 59 = .ok (.aload_n 0, 1) := by decide +kernel
theorem dX4_readConflict_60 : decode cX4_readConflict 60 = .ok (.aload_n 0, 1) := by decide +kernel
theorem dX4_readConflict_61 : decode cX4_readConflict 61 = .ok (.getfield 165, 3) := by decide +kernel
theorem dX4_readConflict_64 : decode cX4_readConflict 64 = .ok (.invokevirtual 126, 3) := by decide +kernel
theorem dX4_readConflict_67 : decode cX4_readConflict 67 = .ok (.return_, 1) := by decide +kernel
theorem dX4_readConflict_68 : decode cX4_readConflict 68 = .ok (.aload_n 0, 1) := by decide +kernel
theorem dX4_readConflict_69 : decode cX4_readConflict 69 = .ok (.getfield 25, 3) := by decide +kernel
theorem dX4_readConflict_72 : decode cX4_readConflict 72 = .ok (.iload_n 1, 1) := by decide +kernel
theorem dX4_readConflict_73 : decode cX4_readConflict 73 = .ok (.iload_n 2, 1) := by decide +kernel
theorem dX4_readConflict_74 : decode cX4_readConflict 74 = .ok (.invokevirtual 174, 3) := by decide +kernel
theorem dX4_readConflict_77 : decode cX4_readConflict 77 = .ok (.return_, 1) := by decide +kernel
theorem zm_X4_readConflict : ZMv "ClassOfMany$Reader" yX4_readConflict cX4_readConflict 3 (none) 0 := ⟨kw_3_122, kw_3_121, kp_15, kw_1_5, by decide +kernel, by decide⟩
def zf_X4_readConflict_j59 (M37 : ZMem) : Option (ZMem) :=
  zb1 (zf_X4_fail (M37 42 3) M37) (fun M39 => some M39)
def zf_X4_readConflict (n : Nat) (M : ZMem) : Option (ZMem) :=
  zdy M 42 6 (7, 17) (fun o32 => zb2 (zf_X4_readNumber n (0 : Int32) ((M o32 0) - (1 : Int32)) M) (fun v33 M34 => zdy M34 42 6 (7, 17) (fun o35 => zb2 (zf_X4_readNumber n (0 : Int32) ((M34 o35 0) - (1 : Int32)) M34) (fun v36 M37 => zb1 (zf_X4_isRight M37) (fun v38 => (if v38 = 0 then some M37 else (if v33 = v36 then (zf_X4_readConflict_j59 M37) else zrd M37 56 10 v33 (fun v40 => zb1 (zf_X9_has v40 v36) (fun v41 => (if v41 = 0 then zb1 (zf_X7_toggleConflict 55 v33 v36 M37) (fun M42 => some M42) else (zf_X4_readConflict_j59 M37)))))))))))
set_option maxHeartbeats 4000000 in
set_option maxRecDepth 100000 in
theorem zc_X4_readConflict {l : Launch} {D : va_G} {ad : Nat → Nat} {cA : Nat → ClassId} {n : Nat} {M : ZMem} {M' : ZMem} (hf : zf_X4_readConflict n M = some M') : ZCt l D ad cA yX4_readConflict cX4_readConflict 3 (none) 3 [.ref (ad 42)] M none M' := by
  refine zct (by decide +kernel) (Nat.le_of_ble_eq_true rfl) (lv := [(0, .ref (ad 42))]) rfl (fun E hl hD had hcA hN hC hR => ?_)
  subst hl; subst hD; subst had; subst hcA
  unfold zf_X4_readConflict at hf
  refine zw_aload_n hC dX4_readConflict_0 rfl 0 rfl ?_
  refine zw_iconst hC (v := (0 : Int32)) dX4_readConflict_1 (by decide) ?_
  refine zw_aload_n hC dX4_readConflict_2 rfl 0 rfl ?_
  refine zw_getd hC hf zF_Reader_told zk_42 dX4_readConflict_3 kw_1_234 (fun o32 ho32 hf => ?_)
  refine zw_geti hC zF_Told_members ho32 dX4_readConflict_6 kw_1_40 ?_
  refine zw_iconst hC (v := (1 : Int32)) dX4_readConflict_9 (by decide) ?_
  refine zw_isub hC dX4_readConflict_10 ?_
  obtain ⟨v33, M34, hcM34, hf⟩ := zb2_some hf
  refine zw_cV hC [.int (0 : Int32), .int ((M o32 0) - (1 : Int32))] [] (st1 := [.int v33]) zm_X4_readNumber (zc_X4_readNumber hcM34) zk_42 rfl kw_3_90 dX4_readConflict_11 rfl (by decide) (Nat.le_of_ble_eq_true rfl) rfl rfl ?_
  refine zw_istore_n hC (lv' := [(1, .int v33), (0, .ref (zad E 42))]) dX4_readConflict_14 rfl hN (by decide) rfl ?_
  refine zw_aload_n hC dX4_readConflict_15 rfl 1 rfl ?_
  refine zw_iconst hC (v := (0 : Int32)) dX4_readConflict_16 (by decide) ?_
  refine zw_aload_n hC dX4_readConflict_17 rfl 1 rfl ?_
  refine zw_getd hC hf zF_Reader_told zk_42 dX4_readConflict_18 kw_1_234 (fun o35 ho35 hf => ?_)
  refine zw_geti hC zF_Told_members ho35 dX4_readConflict_21 kw_1_40 ?_
  refine zw_iconst hC (v := (1 : Int32)) dX4_readConflict_24 (by decide) ?_
  refine zw_isub hC dX4_readConflict_25 ?_
  obtain ⟨v36, M37, hcM37, hf⟩ := zb2_some hf
  refine zw_cV hC [.int (0 : Int32), .int ((M34 o35 0) - (1 : Int32))] [] (st1 := [.int v36]) zm_X4_readNumber (zc_X4_readNumber hcM37) zk_42 rfl kw_3_90 dX4_readConflict_26 rfl (by decide) (Nat.le_of_ble_eq_true rfl) rfl rfl ?_
  refine zw_istore_n hC (lv' := [(2, .int v36), (1, .int v33), (0, .ref (zad E 42))]) dX4_readConflict_29 rfl hN (by decide) rfl ?_
  refine zw_aload_n hC dX4_readConflict_30 rfl 2 rfl ?_
  obtain ⟨v38, hc38, hf⟩ := zb1_some hf
  refine zw_cV hC [] [] (st1 := [.int v38]) zm_X4_isRight (zc_X4_isRight hc38) zk_42 rfl kw_2_231 dX4_readConflict_31 rfl (by decide) (Nat.le_of_ble_eq_true rfl) rfl rfl ?_
  refine zw_if_ne hC 38 hf dX4_readConflict_34 (by decide) (fun hf => ?_) (fun hf => ?_)
  · refine zw_iload_n hC dX4_readConflict_38 rfl 1 rfl ?_
    refine zw_iload_n hC dX4_readConflict_39 rfl 0 rfl ?_
    have hj59 : zf_X4_readConflict_j59 M37 = some M' → ZW E 59 [(0, .ref (zad E 42))] [] M37 := by
      intro  hf
      unfold zf_X4_readConflict_j59 at hf
      refine zw_aload_n hC dX4_readConflict_59 rfl 0 rfl ?_
      refine zw_aload_n hC dX4_readConflict_60 rfl 0 rfl ?_
      refine zw_geti hC zF_Reader_lastNumber zk_42 dX4_readConflict_61 kw_1_231 ?_
      obtain ⟨M39, hcM39, hf⟩ := zb1_some hf
      refine zw_cV hC [.int (M37 42 3)] [] (st1 := []) zm_X4_fail (zc_X4_fail hcM39) zk_42 rfl kw_3_81 dX4_readConflict_64 rfl (by decide) (Nat.le_of_ble_eq_true rfl) rfl rfl ?_
      have h1 := Option.some.inj hf
      subst h1
      exact zw_vret hC hR dX4_readConflict_67
    refine zw_icmp_eq hC 59 hf dX4_readConflict_40 (by decide) (fun hf => ?_) (fun hf => ?_)
    · exact zw_sub [2] rfl (hj59 hf)
    · refine zw_aload_n hC dX4_readConflict_43 rfl 2 rfl ?_
      refine zw_getr (k' := 55) hC zF_Reader_standing zk_42 rfl dX4_readConflict_44 kw_1_236 ?_
      refine zw_getr (k' := 56) hC zF_Standing_foes zk_55 rfl dX4_readConflict_47 kw_1_170 ?_
      refine zw_iload_n hC dX4_readConflict_50 rfl 1 rfl ?_
      refine zw_iald hC hf zk_56 dX4_readConflict_51 (fun v40 hf => ?_)
      refine zw_iload_n hC dX4_readConflict_52 rfl 0 rfl ?_
      obtain ⟨v41, hc41, hf⟩ := zb1_some hf
      refine zw_cN hC [.int v40, .int v36] [] (st1 := [.int v41]) zm_X9_has (zc_X9_has hc41) (by decide +kernel) dX4_readConflict_53 rfl (by decide) (Nat.le_of_ble_eq_true rfl) rfl rfl ?_
      refine zw_if_eq hC 68 hf dX4_readConflict_56 (by decide) (fun hf => ?_) (fun hf => ?_)
      · refine zw_aload_n hC dX4_readConflict_68 rfl 2 rfl ?_
        refine zw_getr (k' := 55) hC zF_Reader_standing zk_42 rfl dX4_readConflict_69 kw_1_236 ?_
        refine zw_iload_n hC dX4_readConflict_72 rfl 1 rfl ?_
        refine zw_iload_n hC dX4_readConflict_73 rfl 0 rfl ?_
        obtain ⟨M42, hcM42, hf⟩ := zb1_some hf
        refine zw_cV hC [.int v33, .int v36] [] (st1 := []) zm_X7_toggleConflict (zc_X7_toggleConflict zk_55 hcM42) zk_55 rfl kw_3_123 dX4_readConflict_74 rfl (by decide) (Nat.le_of_ble_eq_true rfl) rfl rfl ?_
        have h1 := Option.some.inj hf
        subst h1
        exact zw_vret hC hR dX4_readConflict_77
      · exact zw_sub [2] rfl (hj59 hf)
  · have h1 := Option.some.inj hf
    subst h1
    exact zw_vret hC hR dX4_readConflict_37
/-! Reader.readEnd()V -/
theorem dX4_readEnd_0 : decode cX4_readEnd 0 = .ok (.aload_n 0, 1) := by decide +kernel
theorem dX4_readEnd_1 : decode cX4_readEnd 1 = .ok (.invokevirtual 49, 3) := by decide +kernel
theorem dX4_readEnd_4 : decode cX4_readEnd 4 = .ok (.ifCond .ne 4, 3) := by decide +kernel
theorem dX4_readEnd_7 : decode cX4_readEnd 7 = .ok (.return_, 1) := by decide +kernel
theorem dX4_readEnd_8 : decode cX4_readEnd 8 = .ok (.aload_n 0, 1) := by decide +kernel
theorem dX4_readEnd_9 : decode cX4_readEnd 9 = .ok (.invokevirtual 46, 3) := by decide +kernel
theorem dX4_readEnd_12 : decode cX4_readEnd 12 = .ok (.aload_n 0, 1) := by decide +kernel
theorem dX4_readEnd_13 : decode cX4_readEnd 13 = .ok (.getfield 37, 3) := by decide +kernel
theorem dX4_readEnd_16 : decode cX4_readEnd 16 = .ok (.aload_n 0, 1) := by decide +kernel
theorem dX4_readEnd_17 : decode cX4_readEnd 17 = .ok (.getfield 29, 3) := by decide +kernel
theorem dX4_readEnd_20 : decode cX4_readEnd 20 = .ok (.if_icmp .ge 30, 3) := by decide +kernel
theorem dX4_readEnd_23 : decode cX4_readEnd 23 = .ok (.aload_n 0, 1) := by decide +kernel
theorem dX4_readEnd_24 : decode cX4_readEnd 24 = .ok (.getfield 9, 3) := by decide +kernel
theorem dX4_readEnd_27 : decode cX4_readEnd 27 = .ok (.aload_n 0, 1) := by decide +kernel
theorem dX4_readEnd_28 : decode cX4_readEnd 28 = .ok (.getfield 37, 3) := by decide +kernel
theorem dX4_readEnd_31 : decode cX4_readEnd 31 = .ok (.iaload, 1) := by decide +kernel
theorem dX4_readEnd_32 : decode cX4_readEnd 32 = .ok (.bipush 59, 2) := by decide +kernel
theorem dX4_readEnd_34 : decode cX4_readEnd 34 = .ok (.if_icmp .ne 16, 3) := by decide +kernel
theorem dX4_readEnd_37 : decode cX4_readEnd 37 = .ok (.aload_n 0, 1) := by decide +kernel
theorem dX4_readEnd_38 : decode cX4_readEnd 38 = .ok (.dup, 1) := by decide +kernel
theorem dX4_readEnd_39 : decode cX4_readEnd 39 = .ok (.getfield 37, 3) := by decide +kernel
theorem dX4_readEnd_42 : decode cX4_readEnd 42 = .ok (.iconst 1, 1) := by decide +kernel
theorem dX4_readEnd_43 : decode cX4_readEnd 43 = .ok (.iadd, 1) := by decide +kernel
theorem dX4_readEnd_44 : decode cX4_readEnd 44 = .ok (.putfield 37, 3) := by decide +kernel
theorem dX4_readEnd_47 : decode cX4_readEnd 47 = .ok (.goto 11, 3) := by decide +kernel
theorem dX4_readEnd_50 : decode cX4_readEnd 50 = .ok (.aload_n 0, 1) := by decide +kernel
theorem dX4_readEnd_51 : decode cX4_readEnd 51 = .ok (.aload_n 0, 1) := by decide +kernel
theorem dX4_readEnd_52 : decode cX4_readEnd 52 = .ok (.getfield 37, 3) := by decide +kernel
theorem dX4_readEnd_55 : decode cX4_readEnd 55 = .ok (.invokevirtual 126, 3) := by decide +kernel
theorem dX4_readEnd_58 : decode cX4_readEnd 58 = .ok (.return_, 1) := by decide +kernel
theorem zm_X4_readEnd : ZMv "ClassOfMany$Reader" yX4_readEnd cX4_readEnd 1 (none) 0 := ⟨kw_3_130, kw_3_129, kp_16, kw_1_5, by decide +kernel, by decide⟩
def zf_X4_readEnd_j58 (M28 : ZMem) : Option (ZMem) :=
  some M28
def zf_X4_readEnd_j50 (M27 : ZMem) : Option (ZMem) :=
  zb1 (zf_X4_fail (M27 42 2) M27) (fun M29 => (zf_X4_readEnd_j58 M29))
def zf_X4_readEnd (n : Nat) (M : ZMem) : Option (ZMem) :=
  zb1 (zf_X4_isRight M) (fun v26 => (if v26 = 0 then some M else zb1 (zf_X4_skipBlanks n M) (fun M27 => (if (M27 42 1) ≤ (M27 42 2) then (zf_X4_readEnd_j50 M27) else zrd M27 43 400 (M27 42 2) (fun v30 => (if v30 = (59 : Int32) then zput M27 42 2 ((M27 42 2) + (1 : Int32)) (fun M31 => (zf_X4_readEnd_j58 M31)) else (zf_X4_readEnd_j50 M27)))))))
set_option maxHeartbeats 4000000 in
set_option maxRecDepth 100000 in
theorem zc_X4_readEnd {l : Launch} {D : va_G} {ad : Nat → Nat} {cA : Nat → ClassId} {n : Nat} {M : ZMem} {M' : ZMem} (hf : zf_X4_readEnd n M = some M') : ZCt l D ad cA yX4_readEnd cX4_readEnd 1 (none) 2 [.ref (ad 42)] M none M' := by
  refine zct (by decide +kernel) (Nat.le_of_ble_eq_true rfl) (lv := [(0, .ref (ad 42))]) rfl (fun E hl hD had hcA hN hC hR => ?_)
  subst hl; subst hD; subst had; subst hcA
  unfold zf_X4_readEnd at hf
  refine zw_aload_n hC dX4_readEnd_0 rfl 0 rfl ?_
  obtain ⟨v26, hc26, hf⟩ := zb1_some hf
  refine zw_cV hC [] [] (st1 := [.int v26]) zm_X4_isRight (zc_X4_isRight hc26) zk_42 rfl kw_2_231 dX4_readEnd_1 rfl (by decide) (Nat.le_of_ble_eq_true rfl) rfl rfl ?_
  refine zw_if_ne hC 8 hf dX4_readEnd_4 (by decide) (fun hf => ?_) (fun hf => ?_)
  · refine zw_aload_n hC dX4_readEnd_8 rfl 0 rfl ?_
    obtain ⟨M27, hcM27, hf⟩ := zb1_some hf
    refine zw_cV hC [] [] (st1 := []) zm_X4_skipBlanks (zc_X4_skipBlanks hcM27) zk_42 rfl kw_2_227 dX4_readEnd_9 rfl (by decide) (Nat.le_of_ble_eq_true rfl) rfl rfl ?_
    refine zw_aload_n hC dX4_readEnd_12 rfl 0 rfl ?_
    refine zw_geti hC zF_Reader_at zk_42 dX4_readEnd_13 kw_1_230 ?_
    refine zw_aload_n hC dX4_readEnd_16 rfl 0 rfl ?_
    refine zw_geti hC zF_Reader_length zk_42 dX4_readEnd_17 kw_1_229 ?_
    have hj58 : ∀ (M28 : ZMem), zf_X4_readEnd_j58 M28 = some M' → ZW E 58 [] [] M28 := by
      intro M28 hf
      unfold zf_X4_readEnd_j58 at hf
      have h1 := Option.some.inj hf
      subst h1
      exact zw_vret hC hR dX4_readEnd_58
    have hj50 : zf_X4_readEnd_j50 M27 = some M' → ZW E 50 [(0, .ref (zad E 42))] [] M27 := by
      intro  hf
      unfold zf_X4_readEnd_j50 at hf
      refine zw_aload_n hC dX4_readEnd_50 rfl 0 rfl ?_
      refine zw_aload_n hC dX4_readEnd_51 rfl 0 rfl ?_
      refine zw_geti hC zF_Reader_at zk_42 dX4_readEnd_52 kw_1_230 ?_
      obtain ⟨M29, hcM29, hf⟩ := zb1_some hf
      refine zw_cV hC [.int (M27 42 2)] [] (st1 := []) zm_X4_fail (zc_X4_fail hcM29) zk_42 rfl kw_3_81 dX4_readEnd_55 rfl (by decide) (Nat.le_of_ble_eq_true rfl) rfl rfl ?_
      exact zw_sub [] rfl (hj58 M29 hf)
    refine zw_icmp_ge hC 50 hf dX4_readEnd_20 (by decide) (fun hf => ?_) (fun hf => ?_)
    · exact hj50 hf
    · refine zw_aload_n hC dX4_readEnd_23 rfl 0 rfl ?_
      refine zw_getr (k' := 43) hC zF_Reader_tape zk_42 rfl dX4_readEnd_24 kw_1_227 ?_
      refine zw_aload_n hC dX4_readEnd_27 rfl 0 rfl ?_
      refine zw_geti hC zF_Reader_at zk_42 dX4_readEnd_28 kw_1_230 ?_
      refine zw_iald hC hf zk_43 dX4_readEnd_31 (fun v30 hf => ?_)
      refine zw_bipush hC (v := (59 : Int32)) dX4_readEnd_32 (by decide) ?_
      refine zw_icmp_ne hC 50 hf dX4_readEnd_34 (by decide) (fun hf => ?_) (fun hf => ?_)
      · exact hj50 hf
      · refine zw_aload_n hC dX4_readEnd_37 rfl 0 rfl ?_
        refine zw_dup hC dX4_readEnd_38 rfl ?_
        refine zw_geti hC zF_Reader_at zk_42 dX4_readEnd_39 kw_1_230 ?_
        refine zw_iconst hC (v := (1 : Int32)) dX4_readEnd_42 (by decide) ?_
        refine zw_iadd hC dX4_readEnd_43 ?_
        refine zw_puti hC hf zF_Reader_at zk_42 dX4_readEnd_44 kw_1_230 (fun M31 hf => ?_)
        refine zw_goto hC 58 dX4_readEnd_47 (by decide) ?_
        exact zw_sub [] rfl (hj58 M31 hf)
  · have h1 := Option.some.inj hf
    subst h1
    exact zw_vret hC hR dX4_readEnd_7
/-! ClassOfMany.feed(IIIII)I -/
theorem dX9_feed_0 : decode cX9_feed 0 = .ok (.aload_n 0, 1) := by decide +kernel
theorem dX9_feed_1 : decode cX9_feed 1 = .ok (.getfield 36, 3) := by decide +kernel
theorem dX9_feed_4 : decode cX9_feed 4 = .ok (.getfield 68, 3) := by decide +kernel
theorem dX9_feed_7 : decode cX9_feed 7 = .ok (.bipush 20, 2) := by decide +kernel
theorem dX9_feed_9 : decode cX9_feed 9 = .ok (.iadd, 1) := by decide +kernel
theorem dX9_feed_10 : decode cX9_feed 10 = .ok (.sipush 400, 3) := by decide +kernel
theorem dX9_feed_13 : decode cX9_feed 13 = .ok (.if_icmp .le 5, 3) := by decide +kernel
theorem dX9_feed_16 : decode cX9_feed 16 = .ok (.iconst (-1), 1) := by decide +kernel
theorem dX9_feed_17 : decode cX9_feed 17 = .ok (.ireturn, 1) := by decide +kernel
theorem dX9_feed_18 : decode cX9_feed 18 = .ok (.aload_n 0, 1) := by decide +kernel
theorem dX9_feed_19 : decode cX9_feed 19 = .ok (.getfield 36, 3) := by decide +kernel
theorem dX9_feed_22 : decode cX9_feed 22 = .ok (.iload_n 1, 1) := by decide +kernel
theorem dX9_feed_23 : decode cX9_feed 23 = .ok (.invokevirtual 72, 3) := by decide +kernel
theorem dX9_feed_26 : decode cX9_feed 26 = .ok (.aload_n 0, 1) := by decide +kernel
theorem dX9_feed_27 : decode cX9_feed 27 = .ok (.getfield 36, 3) := by decide +kernel
theorem dX9_feed_30 : decode cX9_feed 30 = .ok (.iload_n 2, 1) := by decide +kernel
theorem dX9_feed_31 : decode cX9_feed 31 = .ok (.invokevirtual 72, 3) := by decide +kernel
theorem dX9_feed_34 : decode cX9_feed 34 = .ok (.aload_n 0, 1) := by decide +kernel
theorem dX9_feed_35 : decode cX9_feed 35 = .ok (.getfield 36, 3) := by decide +kernel
theorem dX9_feed_38 : decode cX9_feed 38 = .ok (.iload_n 3, 1) := by decide +kernel
theorem dX9_feed_39 : decode cX9_feed 39 = .ok (.invokevirtual 72, 3) := by decide +kernel
theorem dX9_feed_42 : decode cX9_feed 42 = .ok (.aload_n 0, 1) := by decide +kernel
theorem dX9_feed_43 : decode cX9_feed 43 = .ok (.getfield 36, 3) := by decide +kernel
theorem dX9_feed_46 : decode cX9_feed 46 = .ok (.iload 4, 2) := by decide +kernel
theorem dX9_feed_48 : decode cX9_feed 48 = .ok (.invokevirtual 72, 3) := by decide +kernel
theorem dX9_feed_51 : decode cX9_feed 51 = .ok (.aload_n 0, 1) := by decide +kernel
theorem dX9_feed_52 : decode cX9_feed 52 = .ok (.getfield 36, 3) := by decide +kernel
theorem dX9_feed_55 : decode cX9_feed 55 = .ok (.iload 5, 2) := by decide +kernel
theorem dX9_feed_57 : decode cX9_feed 57 = .ok (.invokevirtual 72, 3) := by decide +kernel
theorem dX9_feed_60 : decode cX9_feed 60 = .ok (.aload_n 0, 1) := by decide +kernel
theorem dX9_feed_61 : decode cX9_feed 61 = .ok (.getfield 36, 3) := by decide +kernel
theorem dX9_feed_64 : decode cX9_feed 64 = .ok (.getfield 68, 3) := by decide +kernel
theorem dX9_feed_67 : decode cX9_feed 67 = .ok (.ireturn, 1) := by decide +kernel
theorem zm_X9_feed : ZMv "ClassOfMany" yX9_feed cX9_feed 6 (some .int) 5 := ⟨kw_2_199, kw_2_197, kw_2_198, kw_1_1, by decide +kernel, by decide⟩
def zf_X9_feed (n : Nat) (a1 : Int32) (a2 : Int32) (a3 : Int32) (a4 : Int32) (a5 : Int32) (M : ZMem) : Option (Int32 × ZMem) :=
  (if ((M 42 1) + (20 : Int32)) ≤ (400 : Int32) then zb1 (zf_X4_putFour n a1 M) (fun M26 => zb1 (zf_X4_putFour n a2 M26) (fun M27 => zb1 (zf_X4_putFour n a3 M27) (fun M28 => zb1 (zf_X4_putFour n a4 M28) (fun M29 => zb1 (zf_X4_putFour n a5 M29) (fun M30 => some ((M30 42 1), M30)))))) else some ((-1 : Int32), M))
set_option maxHeartbeats 4000000 in
set_option maxRecDepth 100000 in
theorem zc_X9_feed {l : Launch} {D : va_G} {ad : Nat → Nat} {cA : Nat → ClassId} {n : Nat} {a1 : Int32} {a2 : Int32} {a3 : Int32} {a4 : Int32} {a5 : Int32} {M : ZMem} {r : Int32} {M' : ZMem} (hf : zf_X9_feed n a1 a2 a3 a4 a5 M = some (r, M')) : ZCt l D ad cA yX9_feed cX9_feed 6 (some .int) 2 [.ref (ad 0), .int a1, .int a2, .int a3, .int a4, .int a5] M (some (.int r)) M' := by
  refine zct (by decide +kernel) (Nat.le_of_ble_eq_true rfl) (lv := [(0, .ref (ad 0)), (1, .int a1), (2, .int a2), (3, .int a3), (4, .int a4), (5, .int a5)]) rfl (fun E hl hD had hcA hN hC hR => ?_)
  subst hl; subst hD; subst had; subst hcA
  unfold zf_X9_feed at hf
  refine zw_aload_n hC dX9_feed_0 rfl 0 rfl ?_
  refine zw_getr (k' := 42) hC zF_ClassOfMany_reader zk_0 rfl dX9_feed_1 kw_2_172 ?_
  refine zw_geti hC zF_Reader_length zk_42 dX9_feed_4 kw_1_228 ?_
  refine zw_bipush hC (v := (20 : Int32)) dX9_feed_7 (by decide) ?_
  refine zw_iadd hC dX9_feed_9 ?_
  refine zw_sipush hC (v := (400 : Int32)) dX9_feed_10 (by decide) ?_
  refine zw_icmp_le hC 18 hf dX9_feed_13 (by decide) (fun hf => ?_) (fun hf => ?_)
  · refine zw_aload_n hC dX9_feed_18 rfl 0 rfl ?_
    refine zw_getr (k' := 42) hC zF_ClassOfMany_reader zk_0 rfl dX9_feed_19 kw_2_172 ?_
    refine zw_iload_n hC dX9_feed_22 rfl 1 rfl ?_
    obtain ⟨M26, hcM26, hf⟩ := zb1_some hf
    refine zw_cV hC [.int a1] [] (st1 := []) zm_X4_putFour (zc_X4_putFour hcM26) zk_42 rfl kw_2_200 dX9_feed_23 rfl (by decide) (Nat.le_of_ble_eq_true rfl) rfl rfl ?_
    refine zw_aload_n hC dX9_feed_26 rfl 0 rfl ?_
    refine zw_getr (k' := 42) hC zF_ClassOfMany_reader zk_0 rfl dX9_feed_27 kw_2_172 ?_
    refine zw_iload_n hC dX9_feed_30 rfl 2 rfl ?_
    obtain ⟨M27, hcM27, hf⟩ := zb1_some hf
    refine zw_cV hC [.int a2] [] (st1 := []) zm_X4_putFour (zc_X4_putFour hcM27) zk_42 rfl kw_2_200 dX9_feed_31 rfl (by decide) (Nat.le_of_ble_eq_true rfl) rfl rfl ?_
    refine zw_aload_n hC dX9_feed_34 rfl 0 rfl ?_
    refine zw_getr (k' := 42) hC zF_ClassOfMany_reader zk_0 rfl dX9_feed_35 kw_2_172 ?_
    refine zw_iload_n hC dX9_feed_38 rfl 3 rfl ?_
    obtain ⟨M28, hcM28, hf⟩ := zb1_some hf
    refine zw_cV hC [.int a3] [] (st1 := []) zm_X4_putFour (zc_X4_putFour hcM28) zk_42 rfl kw_2_200 dX9_feed_39 rfl (by decide) (Nat.le_of_ble_eq_true rfl) rfl rfl ?_
    refine zw_aload_n hC dX9_feed_42 rfl 0 rfl ?_
    refine zw_getr (k' := 42) hC zF_ClassOfMany_reader zk_0 rfl dX9_feed_43 kw_2_172 ?_
    refine zw_iload hC dX9_feed_46 4 rfl ?_
    obtain ⟨M29, hcM29, hf⟩ := zb1_some hf
    refine zw_cV hC [.int a4] [] (st1 := []) zm_X4_putFour (zc_X4_putFour hcM29) zk_42 rfl kw_2_200 dX9_feed_48 rfl (by decide) (Nat.le_of_ble_eq_true rfl) rfl rfl ?_
    refine zw_aload_n hC dX9_feed_51 rfl 0 rfl ?_
    refine zw_getr (k' := 42) hC zF_ClassOfMany_reader zk_0 rfl dX9_feed_52 kw_2_172 ?_
    refine zw_iload hC dX9_feed_55 5 rfl ?_
    obtain ⟨M30, hcM30, hf⟩ := zb1_some hf
    refine zw_cV hC [.int a5] [] (st1 := []) zm_X4_putFour (zc_X4_putFour hcM30) zk_42 rfl kw_2_200 dX9_feed_57 rfl (by decide) (Nat.le_of_ble_eq_true rfl) rfl rfl ?_
    refine zw_aload_n hC dX9_feed_60 rfl 0 rfl ?_
    refine zw_getr (k' := 42) hC zF_ClassOfMany_reader zk_0 rfl dX9_feed_61 kw_2_172 ?_
    refine zw_geti hC zF_Reader_length zk_42 dX9_feed_64 kw_1_228 ?_
    obtain ⟨h1, h2⟩ := Prod.mk.inj (Option.some.inj hf)
    subst h1; subst h2
    exact zw_iret hC hR dX9_feed_67
  · refine zw_iconst hC (v := (-1 : Int32)) dX9_feed_16 (by decide) ?_
    obtain ⟨h1, h2⟩ := Prod.mk.inj (Option.some.inj hf)
    subst h1; subst h2
    exact zw_iret hC hR dX9_feed_17
/-! ClassOfMany.back(I)I -/
theorem dX9_back_0 : decode cX9_back 0 = .ok (.iload_n 1, 1) := by decide +kernel
theorem dX9_back_1 : decode cX9_back 1 = .ok (.ifCond .lt 14, 3) := by decide +kernel
theorem dX9_back_4 : decode cX9_back 4 = .ok (.iload_n 1, 1) := by decide +kernel
theorem dX9_back_5 : decode cX9_back 5 = .ok (.aload_n 0, 1) := by decide +kernel
theorem dX9_back_6 : decode cX9_back 6 = .ok (.getfield 36, 3) := by decide +kernel
theorem dX9_back_9 : decode cX9_back 9 = .ok (.getfield 68, 3) := by decide +kernel
theorem dX9_back_12 : decode cX9_back 12 = .ok (.if_icmp .le 5, 3) := by decide +kernel
theorem dX9_back_15 : decode cX9_back 15 = .ok (.iconst (-1), 1) := by decide +kernel
theorem dX9_back_16 : decode cX9_back 16 = .ok (.ireturn, 1) := by decide +kernel
theorem dX9_back_17 : decode cX9_back 17 = .ok (.aload_n 0, 1) := by decide +kernel
theorem dX9_back_18 : decode cX9_back 18 = .ok (.getfield 36, 3) := by decide +kernel
theorem dX9_back_21 : decode cX9_back 21 = .ok (.dup, 1) := by decide +kernel
theorem dX9_back_22 : decode cX9_back 22 = .ok (.getfield 68, 3) := by decide +kernel
theorem dX9_back_25 : decode cX9_back 25 = .ok (.iload_n 1, 1) := by decide +kernel
theorem dX9_back_26 : decode cX9_back 26 = .ok (.isub, 1) := by decide +kernel
theorem dX9_back_27 : decode cX9_back 27 = .ok (.putfield 68, 3) := by decide +kernel
theorem dX9_back_30 : decode cX9_back 30 = .ok (.aload_n 0, 1) := by decide +kernel
theorem dX9_back_31 : decode cX9_back 31 = .ok (.getfield 36, 3) := by decide +kernel
theorem dX9_back_34 : decode cX9_back 34 = .ok (.getfield 68, 3) := by decide +kernel
theorem dX9_back_37 : decode cX9_back 37 = .ok (.ireturn, 1) := by decide +kernel
theorem zm_X9_back : ZMv "ClassOfMany" yX9_back cX9_back 2 (some .int) 1 := ⟨kw_2_207, kw_2_205, kw_2_206, kw_1_1, by decide +kernel, by decide⟩
def zf_X9_back_j15 (M : ZMem) : Option (Int32 × ZMem) :=
  some ((-1 : Int32), M)
def zf_X9_back (a1 : Int32) (M : ZMem) : Option (Int32 × ZMem) :=
  (if a1 < 0 then (zf_X9_back_j15 M) else (if a1 ≤ (M 42 1) then zput M 42 1 ((M 42 1) - a1) (fun M22 => some ((M22 42 1), M22)) else (zf_X9_back_j15 M)))
set_option maxHeartbeats 4000000 in
set_option maxRecDepth 100000 in
theorem zc_X9_back {l : Launch} {D : va_G} {ad : Nat → Nat} {cA : Nat → ClassId} {a1 : Int32} {M : ZMem} {r : Int32} {M' : ZMem} (hf : zf_X9_back a1 M = some (r, M')) : ZCt l D ad cA yX9_back cX9_back 2 (some .int) 1 [.ref (ad 0), .int a1] M (some (.int r)) M' := by
  refine zct (by decide +kernel) (Nat.le_of_ble_eq_true rfl) (lv := [(0, .ref (ad 0)), (1, .int a1)]) rfl (fun E hl hD had hcA hN hC hR => ?_)
  subst hl; subst hD; subst had; subst hcA
  unfold zf_X9_back at hf
  refine zw_iload_n hC dX9_back_0 rfl 1 rfl ?_
  have hj15 : zf_X9_back_j15 M = some (r, M') → ZW E 15 [] [] M := by
    intro  hf
    unfold zf_X9_back_j15 at hf
    refine zw_iconst hC (v := (-1 : Int32)) dX9_back_15 (by decide) ?_
    obtain ⟨h1, h2⟩ := Prod.mk.inj (Option.some.inj hf)
    subst h1; subst h2
    exact zw_iret hC hR dX9_back_16
  refine zw_if_lt hC 15 hf dX9_back_1 (by decide) (fun hf => ?_) (fun hf => ?_)
  · exact zw_sub [] rfl (hj15 hf)
  · refine zw_iload_n hC dX9_back_4 rfl 1 rfl ?_
    refine zw_aload_n hC dX9_back_5 rfl 0 rfl ?_
    refine zw_getr (k' := 42) hC zF_ClassOfMany_reader zk_0 rfl dX9_back_6 kw_2_172 ?_
    refine zw_geti hC zF_Reader_length zk_42 dX9_back_9 kw_1_228 ?_
    refine zw_icmp_le hC 17 hf dX9_back_12 (by decide) (fun hf => ?_) (fun hf => ?_)
    · refine zw_aload_n hC dX9_back_17 rfl 0 rfl ?_
      refine zw_getr (k' := 42) hC zF_ClassOfMany_reader zk_0 rfl dX9_back_18 kw_2_172 ?_
      refine zw_dup hC dX9_back_21 rfl ?_
      refine zw_geti hC zF_Reader_length zk_42 dX9_back_22 kw_1_228 ?_
      refine zw_iload_n hC dX9_back_25 rfl 1 rfl ?_
      refine zw_isub hC dX9_back_26 ?_
      refine zw_puti hC hf zF_Reader_length zk_42 dX9_back_27 kw_1_228 (fun M22 hf => ?_)
      refine zw_aload_n hC dX9_back_30 rfl 0 rfl ?_
      refine zw_getr (k' := 42) hC zF_ClassOfMany_reader zk_0 rfl dX9_back_31 kw_2_172 ?_
      refine zw_geti hC zF_Reader_length zk_42 dX9_back_34 kw_1_228 ?_
      obtain ⟨h1, h2⟩ := Prod.mk.inj (Option.some.inj hf)
      subst h1; subst h2
      exact zw_iret hC hR dX9_back_37
    · exact zw_sub [] rfl (hj15 hf)
/-! ClassOfMany.remember()V -/
theorem dX9_remember_0 : decode cX9_remember 0 = .ok (.aload_n 0, 1) := by decide +kernel
theorem dX9_remember_1 : decode cX9_remember 1 = .ok (.getfield 29, 3) := by decide +kernel
theorem dX9_remember_4 : decode cX9_remember 4 = .ok (.aload_n 0, 1) := by decide +kernel
theorem dX9_remember_5 : decode cX9_remember 5 = .ok (.getfield 19, 3) := by decide +kernel
theorem dX9_remember_8 : decode cX9_remember 8 = .ok (.invokevirtual 95, 3) := by decide +kernel
theorem dX9_remember_11 : decode cX9_remember 11 = .ok (.aload_n 0, 1) := by decide +kernel
theorem dX9_remember_12 : decode cX9_remember 12 = .ok (.getfield 57, 3) := by decide +kernel
theorem dX9_remember_15 : decode cX9_remember 15 = .ok (.invokevirtual 91, 3) := by decide +kernel
theorem dX9_remember_18 : decode cX9_remember 18 = .ok (.return_, 1) := by decide +kernel
theorem zm_X9_remember : ZMv "ClassOfMany" yX9_remember cX9_remember 1 (none) 0 := ⟨kw_3_156, kw_3_155, kp_17, kw_1_1, by decide +kernel, by decide⟩
def zf_X9_remember (M : ZMem) : Option (ZMem) :=
  zb1 (zf_X0_keep 12 M) (fun M23 => zb1 (zf_X5_forget M23) (fun M24 => some M24))
set_option maxHeartbeats 4000000 in
set_option maxRecDepth 100000 in
theorem zc_X9_remember {l : Launch} {D : va_G} {ad : Nat → Nat} {cA : Nat → ClassId} {M : ZMem} {M' : ZMem} (hf : zf_X9_remember M = some M') : ZCt l D ad cA yX9_remember cX9_remember 1 (none) 3 [.ref (ad 0)] M none M' := by
  refine zct (by decide +kernel) (Nat.le_of_ble_eq_true rfl) (lv := [(0, .ref (ad 0))]) rfl (fun E hl hD had hcA hN hC hR => ?_)
  subst hl; subst hD; subst had; subst hcA
  unfold zf_X9_remember at hf
  refine zw_aload_n hC dX9_remember_0 rfl 0 rfl ?_
  refine zw_getr (k' := 16) hC zF_ClassOfMany_journal zk_0 rfl dX9_remember_1 kw_2_171 ?_
  refine zw_aload_n hC dX9_remember_4 rfl 0 rfl ?_
  refine zw_getr (k' := 12) hC zF_ClassOfMany_now zk_0 rfl dX9_remember_5 kw_2_169 ?_
  obtain ⟨M23, hcM23, hf⟩ := zb1_some hf
  refine zw_cV hC [.ref (zad E 12)] [] (st1 := []) zm_X0_keep (zc_X0_keep zk_12 hcM23) zk_16 rfl kw_3_157 dX9_remember_8 rfl (by decide) (Nat.le_of_ble_eq_true rfl) rfl rfl ?_
  refine zw_aload_n hC dX9_remember_11 rfl 0 rfl ?_
  refine zw_getr (k' := 71) hC zF_ClassOfMany_resting zk_0 rfl dX9_remember_12 kw_2_175 ?_
  obtain ⟨M24, hcM24, hf⟩ := zb1_some hf
  refine zw_cV hC [] [] (st1 := []) zm_X5_forget (zc_X5_forget hcM24) zk_71 rfl kw_3_145 dX9_remember_15 rfl (by decide) (Nat.le_of_ble_eq_true rfl) rfl rfl ?_
  have h1 := Option.some.inj hf
  subst h1
  exact zw_vret hC hR dX9_remember_18
/-! ClassOfMany.days(I)I -/
theorem dX9_days_0 : decode cX9_days 0 = .ok (.iload_n 1, 1) := by decide +kernel
theorem dX9_days_1 : decode cX9_days 1 = .ok (.iconst 1, 1) := by decide +kernel
theorem dX9_days_2 : decode cX9_days 2 = .ok (.if_icmp .lt 23, 3) := by decide +kernel
theorem dX9_days_5 : decode cX9_days 5 = .ok (.iload_n 1, 1) := by decide +kernel
theorem dX9_days_6 : decode cX9_days 6 = .ok (.bipush 30, 2) := by decide +kernel
theorem dX9_days_8 : decode cX9_days 8 = .ok (.if_icmp .gt 17, 3) := by decide +kernel
theorem dX9_days_11 : decode cX9_days 11 = .ok (.aload_n 0, 1) := by decide +kernel
theorem dX9_days_12 : decode cX9_days 12 = .ok (.getfield 19, 3) := by decide +kernel
theorem dX9_days_15 : decode cX9_days 15 = .ok (.getfield 98, 3) := by decide +kernel
theorem dX9_days_18 : decode cX9_days 18 = .ok (.iload_n 1, 1) := by decide +kernel
theorem dX9_days_19 : decode cX9_days 19 = .ok (.iadd, 1) := by decide +kernel
theorem dX9_days_20 : decode cX9_days 20 = .ok (.bipush 99, 2) := by decide +kernel
theorem dX9_days_22 : decode cX9_days 22 = .ok (.if_icmp .le 5, 3) := by decide +kernel
theorem dX9_days_25 : decode cX9_days 25 = .ok (.iconst (-1), 1) := by decide +kernel
theorem dX9_days_26 : decode cX9_days 26 = .ok (.ireturn, 1) := by decide +kernel
theorem dX9_days_27 : decode cX9_days 27 = .ok (.aload_n 0, 1) := by decide +kernel
theorem dX9_days_28 : decode cX9_days 28 = .ok (.invokevirtual 101, 3) := by decide +kernel
theorem dX9_days_31 : decode cX9_days 31 = .ok (.aload_n 0, 1) := by decide +kernel
theorem dX9_days_32 : decode cX9_days 32 = .ok (.getfield 19, 3) := by decide +kernel
theorem dX9_days_35 : decode cX9_days 35 = .ok (.dup, 1) := by decide +kernel
theorem dX9_days_36 : decode cX9_days 36 = .ok (.getfield 98, 3) := by decide +kernel
theorem dX9_days_39 : decode cX9_days 39 = .ok (.iload_n 1, 1) := by decide +kernel
theorem dX9_days_40 : decode cX9_days 40 = .ok (.iadd, 1) := by decide +kernel
theorem dX9_days_41 : decode cX9_days 41 = .ok (.putfield 98, 3) := by decide +kernel
theorem dX9_days_44 : decode cX9_days 44 = .ok (.aload_n 0, 1) := by decide +kernel
theorem dX9_days_45 : decode cX9_days 45 = .ok (.getfield 19, 3) := by decide +kernel
theorem dX9_days_48 : decode cX9_days 48 = .ok (.getfield 98, 3) := by decide +kernel
theorem dX9_days_51 : decode cX9_days 51 = .ok (.ireturn, 1) := by decide +kernel
theorem zm_X9_days : ZMv "ClassOfMany" yX9_days cX9_days 2 (some .int) 1 := ⟨kw_3_152, kw_3_150, kw_3_151, kw_1_1, by decide +kernel, by decide⟩
def zf_X9_days_j25 (M : ZMem) : Option (Int32 × ZMem) :=
  some ((-1 : Int32), M)
def zf_X9_days (a1 : Int32) (M : ZMem) : Option (Int32 × ZMem) :=
  (if a1 < (1 : Int32) then (zf_X9_days_j25 M) else (if (30 : Int32) < a1 then (zf_X9_days_j25 M) else (if ((M 12 0) + a1) ≤ (99 : Int32) then zb1 (zf_X9_remember M) (fun M23 => zput M23 12 0 ((M23 12 0) + a1) (fun M24 => some ((M24 12 0), M24))) else (zf_X9_days_j25 M))))
set_option maxHeartbeats 4000000 in
set_option maxRecDepth 100000 in
theorem zc_X9_days {l : Launch} {D : va_G} {ad : Nat → Nat} {cA : Nat → ClassId} {a1 : Int32} {M : ZMem} {r : Int32} {M' : ZMem} (hf : zf_X9_days a1 M = some (r, M')) : ZCt l D ad cA yX9_days cX9_days 2 (some .int) 4 [.ref (ad 0), .int a1] M (some (.int r)) M' := by
  refine zct (by decide +kernel) (Nat.le_of_ble_eq_true rfl) (lv := [(0, .ref (ad 0)), (1, .int a1)]) rfl (fun E hl hD had hcA hN hC hR => ?_)
  subst hl; subst hD; subst had; subst hcA
  unfold zf_X9_days at hf
  refine zw_iload_n hC dX9_days_0 rfl 1 rfl ?_
  refine zw_iconst hC (v := (1 : Int32)) dX9_days_1 (by decide) ?_
  have hj25 : zf_X9_days_j25 M = some (r, M') → ZW E 25 [] [] M := by
    intro  hf
    unfold zf_X9_days_j25 at hf
    refine zw_iconst hC (v := (-1 : Int32)) dX9_days_25 (by decide) ?_
    obtain ⟨h1, h2⟩ := Prod.mk.inj (Option.some.inj hf)
    subst h1; subst h2
    exact zw_iret hC hR dX9_days_26
  refine zw_icmp_lt hC 25 hf dX9_days_2 (by decide) (fun hf => ?_) (fun hf => ?_)
  · exact zw_sub [] rfl (hj25 hf)
  · refine zw_iload_n hC dX9_days_5 rfl 1 rfl ?_
    refine zw_bipush hC (v := (30 : Int32)) dX9_days_6 (by decide) ?_
    refine zw_icmp_gt hC 25 hf dX9_days_8 (by decide) (fun hf => ?_) (fun hf => ?_)
    · exact zw_sub [] rfl (hj25 hf)
    · refine zw_aload_n hC dX9_days_11 rfl 0 rfl ?_
      refine zw_getr (k' := 12) hC zF_ClassOfMany_now zk_0 rfl dX9_days_12 kw_2_169 ?_
      refine zw_geti hC zF_Standing_today zk_12 dX9_days_15 kw_1_133 ?_
      refine zw_iload_n hC dX9_days_18 rfl 1 rfl ?_
      refine zw_iadd hC dX9_days_19 ?_
      refine zw_bipush hC (v := (99 : Int32)) dX9_days_20 (by decide) ?_
      refine zw_icmp_le hC 27 hf dX9_days_22 (by decide) (fun hf => ?_) (fun hf => ?_)
      · refine zw_aload_n hC dX9_days_27 rfl 0 rfl ?_
        obtain ⟨M23, hcM23, hf⟩ := zb1_some hf
        refine zw_cV hC [] [] (st1 := []) zm_X9_remember (zc_X9_remember hcM23) zk_0 rfl kw_3_153 dX9_days_28 rfl (by decide) (Nat.le_of_ble_eq_true rfl) rfl rfl ?_
        refine zw_aload_n hC dX9_days_31 rfl 0 rfl ?_
        refine zw_getr (k' := 12) hC zF_ClassOfMany_now zk_0 rfl dX9_days_32 kw_2_169 ?_
        refine zw_dup hC dX9_days_35 rfl ?_
        refine zw_geti hC zF_Standing_today zk_12 dX9_days_36 kw_1_133 ?_
        refine zw_iload_n hC dX9_days_39 rfl 1 rfl ?_
        refine zw_iadd hC dX9_days_40 ?_
        refine zw_puti hC hf zF_Standing_today zk_12 dX9_days_41 kw_1_133 (fun M24 hf => ?_)
        refine zw_aload_n hC dX9_days_44 rfl 0 rfl ?_
        refine zw_getr (k' := 12) hC zF_ClassOfMany_now zk_0 rfl dX9_days_45 kw_2_169 ?_
        refine zw_geti hC zF_Standing_today zk_12 dX9_days_48 kw_1_133 ?_
        obtain ⟨h1, h2⟩ := Prod.mk.inj (Option.some.inj hf)
        subst h1; subst h2
        exact zw_iret hC hR dX9_days_51
      · exact zw_sub [] rfl (hj25 hf)
/-! ClassOfMany.order(I)I -/
theorem dX9_order_0 : decode cX9_order 0 = .ok (.aload_n 0, 1) := by decide +kernel
theorem dX9_order_1 : decode cX9_order 1 = .ok (.getfield 12, 3) := by decide +kernel
theorem dX9_order_4 : decode cX9_order 4 = .ok (.iload_n 1, 1) := by decide +kernel
theorem dX9_order_5 : decode cX9_order 5 = .ok (.invokestatic 104, 3) := by decide +kernel
theorem dX9_order_8 : decode cX9_order 8 = .ok (.ifCond .eq 24, 3) := by decide +kernel
theorem dX9_order_11 : decode cX9_order 11 = .ok (.iload_n 1, 1) := by decide +kernel
theorem dX9_order_12 : decode cX9_order 12 = .ok (.aload_n 0, 1) := by decide +kernel
theorem dX9_order_13 : decode cX9_order 13 = .ok (.getfield 19, 3) := by decide +kernel
theorem dX9_order_16 : decode cX9_order 16 = .ok (.getfield 110, 3) := by decide +kernel
theorem dX9_order_19 : decode cX9_order 19 = .ok (.if_icmp .eq 13, 3) := by decide +kernel
theorem dX9_order_22 : decode cX9_order 22 = .ok (.aload_n 0, 1) := by decide +kernel
theorem dX9_order_23 : decode cX9_order 23 = .ok (.getfield 19, 3) := by decide +kernel
theorem dX9_order_26 : decode cX9_order 26 = .ok (.invokevirtual 113, 3) := by decide +kernel
theorem dX9_order_29 : decode cX9_order 29 = .ok (.ifCond .eq 5, 3) := by decide +kernel
theorem dX9_order_32 : decode cX9_order 32 = .ok (.iconst (-1), 1) := by decide +kernel
theorem dX9_order_33 : decode cX9_order 33 = .ok (.ireturn, 1) := by decide +kernel
theorem dX9_order_34 : decode cX9_order 34 = .ok (.aload_n 0, 1) := by decide +kernel
theorem dX9_order_35 : decode cX9_order 35 = .ok (.invokevirtual 101, 3) := by decide +kernel
theorem dX9_order_38 : decode cX9_order 38 = .ok (.aload_n 0, 1) := by decide +kernel
theorem dX9_order_39 : decode cX9_order 39 = .ok (.getfield 19, 3) := by decide +kernel
theorem dX9_order_42 : decode cX9_order 42 = .ok (.getfield 110, 3) := by decide +kernel
theorem dX9_order_45 : decode cX9_order 45 = .ok (.istore_n 2, 1) := by decide +kernel
theorem dX9_order_46 : decode cX9_order 46 = .ok (.aload_n 0, 1) := by decide +kernel
theorem dX9_order_47 : decode cX9_order 47 = .ok (.getfield 19, 3) := by decide +kernel
theorem dX9_order_50 : decode cX9_order 50 = .ok (.iload_n 1, 1) := by decide +kernel
theorem dX9_order_51 : decode cX9_order 51 = .ok (.putfield 110, 3) := by decide +kernel
theorem dX9_order_54 : decode cX9_order 54 = .ok (.iload_n 2, 1) := by decide +kernel
theorem dX9_order_55 : decode cX9_order 55 = .ok (.ireturn, 1) := by decide +kernel
theorem zm_X9_order : ZMv "ClassOfMany" yX9_order cX9_order 3 (some .int) 1 := ⟨kw_3_168, kw_3_166, kw_3_167, kw_1_1, by decide +kernel, by decide⟩
def zf_X9_order_j32 (M : ZMem) : Option (Int32 × ZMem) :=
  some ((-1 : Int32), M)
def zf_X9_order (n : Nat) (a1 : Int32) (M : ZMem) : Option (Int32 × ZMem) :=
  zdy M 0 0 (7, 17) (fun o26 => zb1 (zf_X1_isOrder n o26 a1 M) (fun v27 => (if v27 = 0 then (zf_X9_order_j32 M) else (if a1 = (M 12 1) then (zf_X9_order_j32 M) else zb1 (zf_X7_isSent 12 M) (fun v28 => (if v28 = 0 then zb1 (zf_X9_remember M) (fun M29 => zput M29 12 1 a1 (fun M30 => some ((M29 12 1), M30))) else (zf_X9_order_j32 M)))))))
set_option maxHeartbeats 4000000 in
set_option maxRecDepth 100000 in
theorem zc_X9_order {l : Launch} {D : va_G} {ad : Nat → Nat} {cA : Nat → ClassId} {n : Nat} {a1 : Int32} {M : ZMem} {r : Int32} {M' : ZMem} (hf : zf_X9_order n a1 M = some (r, M')) : ZCt l D ad cA yX9_order cX9_order 3 (some .int) 4 [.ref (ad 0), .int a1] M (some (.int r)) M' := by
  refine zct (by decide +kernel) (Nat.le_of_ble_eq_true rfl) (lv := [(0, .ref (ad 0)), (1, .int a1)]) rfl (fun E hl hD had hcA hN hC hR => ?_)
  subst hl; subst hD; subst had; subst hcA
  unfold zf_X9_order at hf
  refine zw_aload_n hC dX9_order_0 rfl 0 rfl ?_
  refine zw_getd hC hf zF_ClassOfMany_told zk_0 dX9_order_1 kw_2_168 (fun o26 ho26 hf => ?_)
  refine zw_iload_n hC dX9_order_4 rfl 1 rfl ?_
  obtain ⟨v27, hc27, hf⟩ := zb1_some hf
  refine zw_cS hC [.ref (zad E o26), .int a1] [] (st1 := [.int v27]) zm_X1_isOrder (zc_X1_isOrder ho26 hc27) kw_3_169 dX9_order_5 rfl (by decide) (Nat.le_of_ble_eq_true rfl) rfl rfl ?_
  have hj32 : zf_X9_order_j32 M = some (r, M') → ZW E 32 [] [] M := by
    intro  hf
    unfold zf_X9_order_j32 at hf
    refine zw_iconst hC (v := (-1 : Int32)) dX9_order_32 (by decide) ?_
    obtain ⟨h1, h2⟩ := Prod.mk.inj (Option.some.inj hf)
    subst h1; subst h2
    exact zw_iret hC hR dX9_order_33
  refine zw_if_eq hC 32 hf dX9_order_8 (by decide) (fun hf => ?_) (fun hf => ?_)
  · exact zw_sub [] rfl (hj32 hf)
  · refine zw_iload_n hC dX9_order_11 rfl 1 rfl ?_
    refine zw_aload_n hC dX9_order_12 rfl 0 rfl ?_
    refine zw_getr (k' := 12) hC zF_ClassOfMany_now zk_0 rfl dX9_order_13 kw_2_169 ?_
    refine zw_geti hC zF_Standing_order zk_12 dX9_order_16 kw_1_136 ?_
    refine zw_icmp_eq hC 32 hf dX9_order_19 (by decide) (fun hf => ?_) (fun hf => ?_)
    · exact zw_sub [] rfl (hj32 hf)
    · refine zw_aload_n hC dX9_order_22 rfl 0 rfl ?_
      refine zw_getr (k' := 12) hC zF_ClassOfMany_now zk_0 rfl dX9_order_23 kw_2_169 ?_
      obtain ⟨v28, hc28, hf⟩ := zb1_some hf
      refine zw_cV hC [] [] (st1 := [.int v28]) zm_X7_isSent (zc_X7_isSent zk_12 hc28) zk_12 rfl kw_3_178 dX9_order_26 rfl (by decide) (Nat.le_of_ble_eq_true rfl) rfl rfl ?_
      refine zw_if_eq hC 34 hf dX9_order_29 (by decide) (fun hf => ?_) (fun hf => ?_)
      · refine zw_aload_n hC dX9_order_34 rfl 0 rfl ?_
        obtain ⟨M29, hcM29, hf⟩ := zb1_some hf
        refine zw_cV hC [] [] (st1 := []) zm_X9_remember (zc_X9_remember hcM29) zk_0 rfl kw_3_153 dX9_order_35 rfl (by decide) (Nat.le_of_ble_eq_true rfl) rfl rfl ?_
        refine zw_aload_n hC dX9_order_38 rfl 0 rfl ?_
        refine zw_getr (k' := 12) hC zF_ClassOfMany_now zk_0 rfl dX9_order_39 kw_2_169 ?_
        refine zw_geti hC zF_Standing_order zk_12 dX9_order_42 kw_1_136 ?_
        refine zw_istore_n hC (lv' := [(2, .int (M29 12 1)), (0, .ref (zad E 0)), (1, .int a1)]) dX9_order_45 rfl hN (by decide) rfl ?_
        refine zw_aload_n hC dX9_order_46 rfl 1 rfl ?_
        refine zw_getr (k' := 12) hC zF_ClassOfMany_now zk_0 rfl dX9_order_47 kw_2_169 ?_
        refine zw_iload_n hC dX9_order_50 rfl 2 rfl ?_
        refine zw_puti hC hf zF_Standing_order zk_12 dX9_order_51 kw_1_136 (fun M30 hf => ?_)
        refine zw_iload_n hC dX9_order_54 rfl 0 rfl ?_
        obtain ⟨h1, h2⟩ := Prod.mk.inj (Option.some.inj hf)
        subst h1; subst h2
        exact zw_iret hC hR dX9_order_55
      · exact zw_sub [] rfl (hj32 hf)
/-! ClassOfMany.send()I -/
theorem dX9_send_0 : decode cX9_send 0 = .ok (.aload_n 0, 1) := by decide +kernel
theorem dX9_send_1 : decode cX9_send 1 = .ok (.getfield 19, 3) := by decide +kernel
theorem dX9_send_4 : decode cX9_send 4 = .ok (.invokevirtual 113, 3) := by decide +kernel
theorem dX9_send_7 : decode cX9_send 7 = .ok (.ifCond .ne 13, 3) := by decide +kernel
theorem dX9_send_10 : decode cX9_send 10 = .ok (.aload_n 0, 1) := by decide +kernel
theorem dX9_send_11 : decode cX9_send 11 = .ok (.getfield 12, 3) := by decide +kernel
theorem dX9_send_14 : decode cX9_send 14 = .ok (.getfield 117, 3) := by decide +kernel
theorem dX9_send_17 : decode cX9_send 17 = .ok (.ifCond .ne 5, 3) := by decide +kernel
theorem dX9_send_20 : decode cX9_send 20 = .ok (.iconst (-1), 1) := by decide +kernel
theorem dX9_send_21 : decode cX9_send 21 = .ok (.ireturn, 1) := by decide +kernel
theorem dX9_send_22 : decode cX9_send 22 = .ok (.aload_n 0, 1) := by decide +kernel
theorem dX9_send_23 : decode cX9_send 23 = .ok (.invokevirtual 101, 3) := by decide +kernel
theorem dX9_send_26 : decode cX9_send 26 = .ok (.aload_n 0, 1) := by decide +kernel
theorem dX9_send_27 : decode cX9_send 27 = .ok (.getfield 19, 3) := by decide +kernel
theorem dX9_send_30 : decode cX9_send 30 = .ok (.aload_n 0, 1) := by decide +kernel
theorem dX9_send_31 : decode cX9_send 31 = .ok (.getfield 19, 3) := by decide +kernel
theorem dX9_send_34 : decode cX9_send 34 = .ok (.getfield 98, 3) := by decide +kernel
theorem dX9_send_37 : decode cX9_send 37 = .ok (.putfield 120, 3) := by decide +kernel
theorem dX9_send_40 : decode cX9_send 40 = .ok (.aload_n 0, 1) := by decide +kernel
theorem dX9_send_41 : decode cX9_send 41 = .ok (.getfield 19, 3) := by decide +kernel
theorem dX9_send_44 : decode cX9_send 44 = .ok (.aload_n 0, 1) := by decide +kernel
theorem dX9_send_45 : decode cX9_send 45 = .ok (.getfield 12, 3) := by decide +kernel
theorem dX9_send_48 : decode cX9_send 48 = .ok (.aload_n 0, 1) := by decide +kernel
theorem dX9_send_49 : decode cX9_send 49 = .ok (.getfield 19, 3) := by decide +kernel
theorem dX9_send_52 : decode cX9_send 52 = .ok (.getfield 110, 3) := by decide +kernel
theorem dX9_send_55 : decode cX9_send 55 = .ok (.invokestatic 123, 3) := by decide +kernel
theorem dX9_send_58 : decode cX9_send 58 = .ok (.putfield 127, 3) := by decide +kernel
theorem dX9_send_61 : decode cX9_send 61 = .ok (.aload_n 0, 1) := by decide +kernel
theorem dX9_send_62 : decode cX9_send 62 = .ok (.getfield 19, 3) := by decide +kernel
theorem dX9_send_65 : decode cX9_send 65 = .ok (.getfield 127, 3) := by decide +kernel
theorem dX9_send_68 : decode cX9_send 68 = .ok (.ireturn, 1) := by decide +kernel
theorem zm_X9_send : ZMv "ClassOfMany" yX9_send cX9_send 1 (some .int) 0 := ⟨kw_3_185, kw_3_183, kw_3_184, kw_1_1, by decide +kernel, by decide⟩
def zf_X9_send_j20 (M : ZMem) : Option (Int32 × ZMem) :=
  some ((-1 : Int32), M)
def zf_X9_send (n : Nat) (M : ZMem) : Option (Int32 × ZMem) :=
  zb1 (zf_X7_isSent 12 M) (fun v28 => (if v28 = 0 then zdy M 0 0 (7, 17) (fun o29 => (if (M o29 1) = 0 then (zf_X9_send_j20 M) else zb1 (zf_X9_remember M) (fun M30 => zput M30 12 2 (M30 12 0) (fun M31 => zdy M31 0 0 (7, 17) (fun o32 => zb1 (zf_X1_costsBy n o32 (M31 12 1) M31) (fun v33 => zput M31 12 3 v33 (fun M34 => some ((M34 12 3), M34)))))))) else (zf_X9_send_j20 M)))
set_option maxHeartbeats 4000000 in
set_option maxRecDepth 100000 in
theorem zc_X9_send {l : Launch} {D : va_G} {ad : Nat → Nat} {cA : Nat → ClassId} {n : Nat} {M : ZMem} {r : Int32} {M' : ZMem} (hf : zf_X9_send n M = some (r, M')) : ZCt l D ad cA yX9_send cX9_send 1 (some .int) 4 [.ref (ad 0)] M (some (.int r)) M' := by
  refine zct (by decide +kernel) (Nat.le_of_ble_eq_true rfl) (lv := [(0, .ref (ad 0))]) rfl (fun E hl hD had hcA hN hC hR => ?_)
  subst hl; subst hD; subst had; subst hcA
  unfold zf_X9_send at hf
  refine zw_aload_n hC dX9_send_0 rfl 0 rfl ?_
  refine zw_getr (k' := 12) hC zF_ClassOfMany_now zk_0 rfl dX9_send_1 kw_2_169 ?_
  obtain ⟨v28, hc28, hf⟩ := zb1_some hf
  refine zw_cV hC [] [] (st1 := [.int v28]) zm_X7_isSent (zc_X7_isSent zk_12 hc28) zk_12 rfl kw_3_178 dX9_send_4 rfl (by decide) (Nat.le_of_ble_eq_true rfl) rfl rfl ?_
  have hj20 : zf_X9_send_j20 M = some (r, M') → ZW E 20 [] [] M := by
    intro  hf
    unfold zf_X9_send_j20 at hf
    refine zw_iconst hC (v := (-1 : Int32)) dX9_send_20 (by decide) ?_
    obtain ⟨h1, h2⟩ := Prod.mk.inj (Option.some.inj hf)
    subst h1; subst h2
    exact zw_iret hC hR dX9_send_21
  refine zw_if_ne hC 20 hf dX9_send_7 (by decide) (fun hf => ?_) (fun hf => ?_)
  · exact zw_sub [] rfl (hj20 hf)
  · refine zw_aload_n hC dX9_send_10 rfl 0 rfl ?_
    refine zw_getd hC hf zF_ClassOfMany_told zk_0 dX9_send_11 kw_2_168 (fun o29 ho29 hf => ?_)
    refine zw_geti hC zF_Told_channels ho29 dX9_send_14 kw_1_44 ?_
    refine zw_if_ne hC 22 hf dX9_send_17 (by decide) (fun hf => ?_) (fun hf => ?_)
    · refine zw_aload_n hC dX9_send_22 rfl 0 rfl ?_
      obtain ⟨M30, hcM30, hf⟩ := zb1_some hf
      refine zw_cV hC [] [] (st1 := []) zm_X9_remember (zc_X9_remember hcM30) zk_0 rfl kw_3_153 dX9_send_23 rfl (by decide) (Nat.le_of_ble_eq_true rfl) rfl rfl ?_
      refine zw_aload_n hC dX9_send_26 rfl 0 rfl ?_
      refine zw_getr (k' := 12) hC zF_ClassOfMany_now zk_0 rfl dX9_send_27 kw_2_169 ?_
      refine zw_aload_n hC dX9_send_30 rfl 0 rfl ?_
      refine zw_getr (k' := 12) hC zF_ClassOfMany_now zk_0 rfl dX9_send_31 kw_2_169 ?_
      refine zw_geti hC zF_Standing_today zk_12 dX9_send_34 kw_1_133 ?_
      refine zw_puti hC hf zF_Standing_sentDay zk_12 dX9_send_37 kw_1_138 (fun M31 hf => ?_)
      refine zw_aload_n hC dX9_send_40 rfl 0 rfl ?_
      refine zw_getr (k' := 12) hC zF_ClassOfMany_now zk_0 rfl dX9_send_41 kw_2_169 ?_
      refine zw_aload_n hC dX9_send_44 rfl 0 rfl ?_
      refine zw_getd hC hf zF_ClassOfMany_told zk_0 dX9_send_45 kw_2_168 (fun o32 ho32 hf => ?_)
      refine zw_aload_n hC dX9_send_48 rfl 0 rfl ?_
      refine zw_getr (k' := 12) hC zF_ClassOfMany_now zk_0 rfl dX9_send_49 kw_2_169 ?_
      refine zw_geti hC zF_Standing_order zk_12 dX9_send_52 kw_1_136 ?_
      obtain ⟨v33, hc33, hf⟩ := zb1_some hf
      refine zw_cS hC [.ref (zad E o32), .int (M31 12 1)] [.ref (zad E 12)] (st1 := [.int v33, .ref (zad E 12)]) zm_X1_costsBy (zc_X1_costsBy ho32 hc33) kw_3_186 dX9_send_55 rfl (by decide) (Nat.le_of_ble_eq_true rfl) rfl rfl ?_
      refine zw_puti hC hf zF_Standing_costs zk_12 dX9_send_58 kw_1_141 (fun M34 hf => ?_)
      refine zw_aload_n hC dX9_send_61 rfl 0 rfl ?_
      refine zw_getr (k' := 12) hC zF_ClassOfMany_now zk_0 rfl dX9_send_62 kw_2_169 ?_
      refine zw_geti hC zF_Standing_costs zk_12 dX9_send_65 kw_1_141 ?_
      obtain ⟨h1, h2⟩ := Prod.mk.inj (Option.some.inj hf)
      subst h1; subst h2
      exact zw_iret hC hR dX9_send_68
    · exact zw_sub [] rfl (hj20 hf)
/-! ClassOfMany.isMember(I)Z -/
theorem dX9_isMember_0 : decode cX9_isMember 0 = .ok (.iload_n 1, 1) := by decide +kernel
theorem dX9_isMember_1 : decode cX9_isMember 1 = .ok (.ifCond .lt 18, 3) := by decide +kernel
theorem dX9_isMember_4 : decode cX9_isMember 4 = .ok (.iload_n 1, 1) := by decide +kernel
theorem dX9_isMember_5 : decode cX9_isMember 5 = .ok (.aload_n 0, 1) := by decide +kernel
theorem dX9_isMember_6 : decode cX9_isMember 6 = .ok (.getfield 12, 3) := by decide +kernel
theorem dX9_isMember_9 : decode cX9_isMember 9 = .ok (.getfield 92, 3) := by decide +kernel
theorem dX9_isMember_12 : decode cX9_isMember 12 = .ok (.if_icmp .ge 7, 3) := by decide +kernel
theorem dX9_isMember_15 : decode cX9_isMember 15 = .ok (.iconst 1, 1) := by decide +kernel
theorem dX9_isMember_16 : decode cX9_isMember 16 = .ok (.goto 4, 3) := by decide +kernel
theorem dX9_isMember_19 : decode cX9_isMember 19 = .ok (.iconst 0, 1) := by decide +kernel
theorem dX9_isMember_20 : decode cX9_isMember 20 = .ok (.ireturn, 1) := by decide +kernel
theorem zm_X9_isMember : ZMv "ClassOfMany" yX9_isMember cX9_isMember 2 (some .boolean) 1 := ⟨kw_3_200, kw_3_199, kp_18, kw_1_1, by decide +kernel, by decide⟩
def zf_X9_isMember_j20 (v22 : Int32) : Option (Int32) :=
  zbz v22 (some v22)
def zf_X9_isMember_j19 : Option (Int32) :=
  (zf_X9_isMember_j20 (0 : Int32))
def zf_X9_isMember (a1 : Int32) (M : ZMem) : Option (Int32) :=
  (if a1 < 0 then (zf_X9_isMember_j19) else zdy M 0 0 (7, 17) (fun o23 => (if (M o23 0) ≤ a1 then (zf_X9_isMember_j19) else (zf_X9_isMember_j20 (1 : Int32)))))
set_option maxHeartbeats 4000000 in
set_option maxRecDepth 100000 in
theorem zc_X9_isMember {l : Launch} {D : va_G} {ad : Nat → Nat} {cA : Nat → ClassId} {a1 : Int32} {M : ZMem} {r : Int32} (hf : zf_X9_isMember a1 M = some r) : ZCt l D ad cA yX9_isMember cX9_isMember 2 (some .boolean) 1 [.ref (ad 0), .int a1] M (some (.int r)) M := by
  refine zct (by decide +kernel) (Nat.le_of_ble_eq_true rfl) (lv := [(0, .ref (ad 0)), (1, .int a1)]) rfl (fun E hl hD had hcA hN hC hR => ?_)
  subst hl; subst hD; subst had; subst hcA
  unfold zf_X9_isMember at hf
  refine zw_iload_n hC dX9_isMember_0 rfl 1 rfl ?_
  have hj20 : ∀ (v22 : Int32), zf_X9_isMember_j20 v22 = some r → ZW E 20 [] [.int v22] M := by
    intro v22 hf
    unfold zf_X9_isMember_j20 at hf
    obtain ⟨hz, hf⟩ := zbz_some hf
    have h1 := Option.some.inj hf
    subst h1
    exact zw_zret hC hR hz dX9_isMember_20
  have hj19 : zf_X9_isMember_j19 = some r → ZW E 19 [] [] M := by
    intro  hf
    unfold zf_X9_isMember_j19 at hf
    refine zw_iconst hC (v := (0 : Int32)) dX9_isMember_19 (by decide) ?_
    exact hj20 (0 : Int32) hf
  refine zw_if_lt hC 19 hf dX9_isMember_1 (by decide) (fun hf => ?_) (fun hf => ?_)
  · exact zw_sub [] rfl (hj19 hf)
  · refine zw_iload_n hC dX9_isMember_4 rfl 1 rfl ?_
    refine zw_aload_n hC dX9_isMember_5 rfl 0 rfl ?_
    refine zw_getd hC hf zF_ClassOfMany_told zk_0 dX9_isMember_6 kw_2_168 (fun o23 ho23 hf => ?_)
    refine zw_geti hC zF_Told_members ho23 dX9_isMember_9 kw_1_38 ?_
    refine zw_icmp_ge hC 19 hf dX9_isMember_12 (by decide) (fun hf => ?_) (fun hf => ?_)
    · exact zw_sub [] rfl (hj19 hf)
    · refine zw_iconst hC (v := (1 : Int32)) dX9_isMember_15 (by decide) ?_
      refine zw_goto hC 20 dX9_isMember_16 (by decide) ?_
      exact zw_sub [] rfl (hj20 (1 : Int32) hf)
/-! ClassOfMany.reachDay(I)I -/
theorem dX9_reachDay_0 : decode cX9_reachDay 0 = .ok (.aload_n 0, 1) := by decide +kernel
theorem dX9_reachDay_1 : decode cX9_reachDay 1 = .ok (.getfield 19, 3) := by decide +kernel
theorem dX9_reachDay_4 : decode cX9_reachDay 4 = .ok (.invokevirtual 113, 3) := by decide +kernel
theorem dX9_reachDay_7 : decode cX9_reachDay 7 = .ok (.ifCond .ne 6, 3) := by decide +kernel
theorem dX9_reachDay_10 : decode cX9_reachDay 10 = .ok (.bipush (-2), 2) := by decide +kernel
theorem dX9_reachDay_12 : decode cX9_reachDay 12 = .ok (.ireturn, 1) := by decide +kernel
theorem dX9_reachDay_13 : decode cX9_reachDay 13 = .ok (.aload_n 0, 1) := by decide +kernel
theorem dX9_reachDay_14 : decode cX9_reachDay 14 = .ok (.getfield 12, 3) := by decide +kernel
theorem dX9_reachDay_17 : decode cX9_reachDay 17 = .ok (.aload_n 0, 1) := by decide +kernel
theorem dX9_reachDay_18 : decode cX9_reachDay 18 = .ok (.getfield 19, 3) := by decide +kernel
theorem dX9_reachDay_21 : decode cX9_reachDay 21 = .ok (.getfield 110, 3) := by decide +kernel
theorem dX9_reachDay_24 : decode cX9_reachDay 24 = .ok (.iload_n 1, 1) := by decide +kernel
theorem dX9_reachDay_25 : decode cX9_reachDay 25 = .ok (.invokestatic 290, 3) := by decide +kernel
theorem dX9_reachDay_28 : decode cX9_reachDay 28 = .ok (.istore_n 2, 1) := by decide +kernel
theorem dX9_reachDay_29 : decode cX9_reachDay 29 = .ok (.iload_n 2, 1) := by decide +kernel
theorem dX9_reachDay_30 : decode cX9_reachDay 30 = .ok (.bipush (-2), 2) := by decide +kernel
theorem dX9_reachDay_32 : decode cX9_reachDay 32 = .ok (.if_icmp .ne 8, 3) := by decide +kernel
theorem dX9_reachDay_35 : decode cX9_reachDay 35 = .ok (.bipush (-2), 2) := by decide +kernel
theorem dX9_reachDay_37 : decode cX9_reachDay 37 = .ok (.goto 12, 3) := by decide +kernel
theorem dX9_reachDay_40 : decode cX9_reachDay 40 = .ok (.aload_n 0, 1) := by decide +kernel
theorem dX9_reachDay_41 : decode cX9_reachDay 41 = .ok (.getfield 19, 3) := by decide +kernel
theorem dX9_reachDay_44 : decode cX9_reachDay 44 = .ok (.getfield 120, 3) := by decide +kernel
theorem dX9_reachDay_47 : decode cX9_reachDay 47 = .ok (.iload_n 2, 1) := by decide +kernel
theorem dX9_reachDay_48 : decode cX9_reachDay 48 = .ok (.iadd, 1) := by decide +kernel
theorem dX9_reachDay_49 : decode cX9_reachDay 49 = .ok (.ireturn, 1) := by decide +kernel
theorem zm_X9_reachDay : ZMv "ClassOfMany" yX9_reachDay cX9_reachDay 3 (some .int) 1 := ⟨kw_3_209, kw_3_208, kp_20, kw_1_1, by decide +kernel, by decide⟩
def zf_X9_reachDay_j49 (v27 : Int32) : Option (Int32) :=
  some v27
def zf_X9_reachDay (n : Nat) (a1 : Int32) (M : ZMem) : Option (Int32) :=
  zb1 (zf_X7_isSent 12 M) (fun v24 => (if v24 = 0 then some (-2 : Int32) else zdy M 0 0 (7, 17) (fun o25 => zb1 (zf_X1_daysTo n o25 (M 12 1) a1 M) (fun v26 => (if v26 = (-2 : Int32) then (zf_X9_reachDay_j49 (-2 : Int32)) else (zf_X9_reachDay_j49 ((M 12 2) + v26)))))))
set_option maxHeartbeats 4000000 in
set_option maxRecDepth 100000 in
theorem zc_X9_reachDay {l : Launch} {D : va_G} {ad : Nat → Nat} {cA : Nat → ClassId} {n : Nat} {a1 : Int32} {M : ZMem} {r : Int32} (hf : zf_X9_reachDay n a1 M = some r) : ZCt l D ad cA yX9_reachDay cX9_reachDay 3 (some .int) 3 [.ref (ad 0), .int a1] M (some (.int r)) M := by
  refine zct (by decide +kernel) (Nat.le_of_ble_eq_true rfl) (lv := [(0, .ref (ad 0)), (1, .int a1)]) rfl (fun E hl hD had hcA hN hC hR => ?_)
  subst hl; subst hD; subst had; subst hcA
  unfold zf_X9_reachDay at hf
  refine zw_aload_n hC dX9_reachDay_0 rfl 0 rfl ?_
  refine zw_getr (k' := 12) hC zF_ClassOfMany_now zk_0 rfl dX9_reachDay_1 kw_2_169 ?_
  obtain ⟨v24, hc24, hf⟩ := zb1_some hf
  refine zw_cV hC [] [] (st1 := [.int v24]) zm_X7_isSent (zc_X7_isSent zk_12 hc24) zk_12 rfl kw_3_178 dX9_reachDay_4 rfl (by decide) (Nat.le_of_ble_eq_true rfl) rfl rfl ?_
  refine zw_if_ne hC 13 hf dX9_reachDay_7 (by decide) (fun hf => ?_) (fun hf => ?_)
  · refine zw_aload_n hC dX9_reachDay_13 rfl 0 rfl ?_
    refine zw_getd hC hf zF_ClassOfMany_told zk_0 dX9_reachDay_14 kw_2_168 (fun o25 ho25 hf => ?_)
    refine zw_aload_n hC dX9_reachDay_17 rfl 0 rfl ?_
    refine zw_getr (k' := 12) hC zF_ClassOfMany_now zk_0 rfl dX9_reachDay_18 kw_2_169 ?_
    refine zw_geti hC zF_Standing_order zk_12 dX9_reachDay_21 kw_1_136 ?_
    refine zw_iload_n hC dX9_reachDay_24 rfl 1 rfl ?_
    obtain ⟨v26, hc26, hf⟩ := zb1_some hf
    refine zw_cS hC [.ref (zad E o25), .int (M 12 1), .int a1] [] (st1 := [.int v26]) zm_X1_daysTo (zc_X1_daysTo ho25 hc26) kw_3_210 dX9_reachDay_25 rfl (by decide) (Nat.le_of_ble_eq_true rfl) rfl rfl ?_
    refine zw_istore_n hC (lv' := [(2, .int v26), (0, .ref (zad E 0)), (1, .int a1)]) dX9_reachDay_28 rfl hN (by decide) rfl ?_
    refine zw_iload_n hC dX9_reachDay_29 rfl 0 rfl ?_
    refine zw_bipush hC (v := (-2 : Int32)) dX9_reachDay_30 (by decide) ?_
    have hj49 : ∀ (v27 : Int32), zf_X9_reachDay_j49 v27 = some r → ZW E 49 [] [.int v27] M := by
      intro v27 hf
      unfold zf_X9_reachDay_j49 at hf
      have h1 := Option.some.inj hf
      subst h1
      exact zw_iret hC hR dX9_reachDay_49
    refine zw_icmp_ne hC 40 hf dX9_reachDay_32 (by decide) (fun hf => ?_) (fun hf => ?_)
    · refine zw_aload_n hC dX9_reachDay_40 rfl 1 rfl ?_
      refine zw_getr (k' := 12) hC zF_ClassOfMany_now zk_0 rfl dX9_reachDay_41 kw_2_169 ?_
      refine zw_geti hC zF_Standing_sentDay zk_12 dX9_reachDay_44 kw_1_138 ?_
      refine zw_iload_n hC dX9_reachDay_47 rfl 0 rfl ?_
      refine zw_iadd hC dX9_reachDay_48 ?_
      exact zw_sub [] rfl (hj49 ((M 12 2) + v26) hf)
    · refine zw_bipush hC (v := (-2 : Int32)) dX9_reachDay_35 (by decide) ?_
      refine zw_goto hC 49 dX9_reachDay_37 (by decide) ?_
      exact zw_sub [] rfl (hj49 (-2 : Int32) hf)
  · refine zw_bipush hC (v := (-2 : Int32)) dX9_reachDay_10 (by decide) ?_
    have h1 := Option.some.inj hf
    subst h1
    exact zw_iret hC hR dX9_reachDay_12
/-! ClassOfMany.isReached(I)Z -/
theorem dX9_isReached_0 : decode cX9_isReached 0 = .ok (.aload_n 0, 1) := by decide +kernel
theorem dX9_isReached_1 : decode cX9_isReached 1 = .ok (.iload_n 1, 1) := by decide +kernel
theorem dX9_isReached_2 : decode cX9_isReached 2 = .ok (.invokevirtual 219, 3) := by decide +kernel
theorem dX9_isReached_5 : decode cX9_isReached 5 = .ok (.istore_n 2, 1) := by decide +kernel
theorem dX9_isReached_6 : decode cX9_isReached 6 = .ok (.iload_n 2, 1) := by decide +kernel
theorem dX9_isReached_7 : decode cX9_isReached 7 = .ok (.bipush (-2), 2) := by decide +kernel
theorem dX9_isReached_9 : decode cX9_isReached 9 = .ok (.if_icmp .eq 18, 3) := by decide +kernel
theorem dX9_isReached_12 : decode cX9_isReached 12 = .ok (.iload_n 2, 1) := by decide +kernel
theorem dX9_isReached_13 : decode cX9_isReached 13 = .ok (.aload_n 0, 1) := by decide +kernel
theorem dX9_isReached_14 : decode cX9_isReached 14 = .ok (.getfield 19, 3) := by decide +kernel
theorem dX9_isReached_17 : decode cX9_isReached 17 = .ok (.getfield 98, 3) := by decide +kernel
theorem dX9_isReached_20 : decode cX9_isReached 20 = .ok (.if_icmp .gt 7, 3) := by decide +kernel
theorem dX9_isReached_23 : decode cX9_isReached 23 = .ok (.iconst 1, 1) := by decide +kernel
theorem dX9_isReached_24 : decode cX9_isReached 24 = .ok (.goto 4, 3) := by decide +kernel
theorem dX9_isReached_27 : decode cX9_isReached 27 = .ok (.iconst 0, 1) := by decide +kernel
theorem dX9_isReached_28 : decode cX9_isReached 28 = .ok (.ireturn, 1) := by decide +kernel
theorem zm_X9_isReached : ZMv "ClassOfMany" yX9_isReached cX9_isReached 3 (some .boolean) 1 := ⟨kw_3_205, kw_3_204, kp_19, kw_1_1, by decide +kernel, by decide⟩
def zf_X9_isReached_j28 (v23 : Int32) : Option (Int32) :=
  zbz v23 (some v23)
def zf_X9_isReached_j27 : Option (Int32) :=
  (zf_X9_isReached_j28 (0 : Int32))
def zf_X9_isReached (n : Nat) (a1 : Int32) (M : ZMem) : Option (Int32) :=
  zb1 (zf_X9_reachDay n a1 M) (fun v22 => (if v22 = (-2 : Int32) then (zf_X9_isReached_j27) else (if (M 12 0) < v22 then (zf_X9_isReached_j27) else (zf_X9_isReached_j28 (1 : Int32)))))
set_option maxHeartbeats 4000000 in
set_option maxRecDepth 100000 in
theorem zc_X9_isReached {l : Launch} {D : va_G} {ad : Nat → Nat} {cA : Nat → ClassId} {n : Nat} {a1 : Int32} {M : ZMem} {r : Int32} (hf : zf_X9_isReached n a1 M = some r) : ZCt l D ad cA yX9_isReached cX9_isReached 3 (some .boolean) 4 [.ref (ad 0), .int a1] M (some (.int r)) M := by
  refine zct (by decide +kernel) (Nat.le_of_ble_eq_true rfl) (lv := [(0, .ref (ad 0)), (1, .int a1)]) rfl (fun E hl hD had hcA hN hC hR => ?_)
  subst hl; subst hD; subst had; subst hcA
  unfold zf_X9_isReached at hf
  refine zw_aload_n hC dX9_isReached_0 rfl 0 rfl ?_
  refine zw_iload_n hC dX9_isReached_1 rfl 1 rfl ?_
  obtain ⟨v22, hc22, hf⟩ := zb1_some hf
  refine zw_cV hC [.int a1] [] (st1 := [.int v22]) zm_X9_reachDay (zc_X9_reachDay hc22) zk_0 rfl kw_3_206 dX9_isReached_2 rfl (by decide) (Nat.le_of_ble_eq_true rfl) rfl rfl ?_
  refine zw_istore_n hC (lv' := [(2, .int v22), (0, .ref (zad E 0)), (1, .int a1)]) dX9_isReached_5 rfl hN (by decide) rfl ?_
  refine zw_iload_n hC dX9_isReached_6 rfl 0 rfl ?_
  refine zw_bipush hC (v := (-2 : Int32)) dX9_isReached_7 (by decide) ?_
  have hj28 : ∀ (v23 : Int32), zf_X9_isReached_j28 v23 = some r → ZW E 28 [] [.int v23] M := by
    intro v23 hf
    unfold zf_X9_isReached_j28 at hf
    obtain ⟨hz, hf⟩ := zbz_some hf
    have h1 := Option.some.inj hf
    subst h1
    exact zw_zret hC hR hz dX9_isReached_28
  have hj27 : zf_X9_isReached_j27 = some r → ZW E 27 [] [] M := by
    intro  hf
    unfold zf_X9_isReached_j27 at hf
    refine zw_iconst hC (v := (0 : Int32)) dX9_isReached_27 (by decide) ?_
    exact hj28 (0 : Int32) hf
  refine zw_icmp_eq hC 27 hf dX9_isReached_9 (by decide) (fun hf => ?_) (fun hf => ?_)
  · exact zw_sub [] rfl (hj27 hf)
  · refine zw_iload_n hC dX9_isReached_12 rfl 0 rfl ?_
    refine zw_aload_n hC dX9_isReached_13 rfl 1 rfl ?_
    refine zw_getr (k' := 12) hC zF_ClassOfMany_now zk_0 rfl dX9_isReached_14 kw_2_169 ?_
    refine zw_geti hC zF_Standing_today zk_12 dX9_isReached_17 kw_1_133 ?_
    refine zw_icmp_gt hC 27 hf dX9_isReached_20 (by decide) (fun hf => ?_) (fun hf => ?_)
    · exact zw_sub [] rfl (hj27 hf)
    · refine zw_iconst hC (v := (1 : Int32)) dX9_isReached_23 (by decide) ?_
      refine zw_goto hC 28 dX9_isReached_24 (by decide) ?_
      exact zw_sub [] rfl (hj28 (1 : Int32) hf)
/-! ClassOfMany.out(I)I -/
theorem dX9_out_0 : decode cX9_out 0 = .ok (.aload_n 0, 1) := by decide +kernel
theorem dX9_out_1 : decode cX9_out 1 = .ok (.iload_n 1, 1) := by decide +kernel
theorem dX9_out_2 : decode cX9_out 2 = .ok (.invokevirtual 130, 3) := by decide +kernel
theorem dX9_out_5 : decode cX9_out 5 = .ok (.ifCond .eq 42, 3) := by decide +kernel
theorem dX9_out_8 : decode cX9_out 8 = .ok (.aload_n 0, 1) := by decide +kernel
theorem dX9_out_9 : decode cX9_out 9 = .ok (.getfield 19, 3) := by decide +kernel
theorem dX9_out_12 : decode cX9_out 12 = .ok (.getfield 134, 3) := by decide +kernel
theorem dX9_out_15 : decode cX9_out 15 = .ok (.iload_n 1, 1) := by decide +kernel
theorem dX9_out_16 : decode cX9_out 16 = .ok (.invokestatic 137, 3) := by decide +kernel
theorem dX9_out_19 : decode cX9_out 19 = .ok (.ifCond .ne 28, 3) := by decide +kernel
theorem dX9_out_22 : decode cX9_out 22 = .ok (.aload_n 0, 1) := by decide +kernel
theorem dX9_out_23 : decode cX9_out 23 = .ok (.iload_n 1, 1) := by decide +kernel
theorem dX9_out_24 : decode cX9_out 24 = .ok (.invokevirtual 141, 3) := by decide +kernel
theorem dX9_out_27 : decode cX9_out 27 = .ok (.ifCond .eq 20, 3) := by decide +kernel
theorem dX9_out_30 : decode cX9_out 30 = .ok (.aload_n 0, 1) := by decide +kernel
theorem dX9_out_31 : decode cX9_out 31 = .ok (.getfield 19, 3) := by decide +kernel
theorem dX9_out_34 : decode cX9_out 34 = .ok (.getfield 98, 3) := by decide +kernel
theorem dX9_out_37 : decode cX9_out 37 = .ok (.aload_n 0, 1) := by decide +kernel
theorem dX9_out_38 : decode cX9_out 38 = .ok (.getfield 12, 3) := by decide +kernel
theorem dX9_out_41 : decode cX9_out 41 = .ok (.getfield 144, 3) := by decide +kernel
theorem dX9_out_44 : decode cX9_out 44 = .ok (.if_icmp .le 5, 3) := by decide +kernel
theorem dX9_out_47 : decode cX9_out 47 = .ok (.iconst (-1), 1) := by decide +kernel
theorem dX9_out_48 : decode cX9_out 48 = .ok (.ireturn, 1) := by decide +kernel
theorem dX9_out_49 : decode cX9_out 49 = .ok (.aload_n 0, 1) := by decide +kernel
theorem dX9_out_50 : decode cX9_out 50 = .ok (.invokevirtual 101, 3) := by decide +kernel
theorem dX9_out_53 : decode cX9_out 53 = .ok (.aload_n 0, 1) := by decide +kernel
theorem dX9_out_54 : decode cX9_out 54 = .ok (.getfield 19, 3) := by decide +kernel
theorem dX9_out_57 : decode cX9_out 57 = .ok (.dup, 1) := by decide +kernel
theorem dX9_out_58 : decode cX9_out 58 = .ok (.getfield 134, 3) := by decide +kernel
theorem dX9_out_61 : decode cX9_out 61 = .ok (.iconst 1, 1) := by decide +kernel
theorem dX9_out_62 : decode cX9_out 62 = .ok (.iload_n 1, 1) := by decide +kernel
theorem dX9_out_63 : decode cX9_out 63 = .ok (.ishl, 1) := by decide +kernel
theorem dX9_out_64 : decode cX9_out 64 = .ok (.ior, 1) := by decide +kernel
theorem dX9_out_65 : decode cX9_out 65 = .ok (.putfield 134, 3) := by decide +kernel
theorem dX9_out_68 : decode cX9_out 68 = .ok (.aload_n 0, 1) := by decide +kernel
theorem dX9_out_69 : decode cX9_out 69 = .ok (.getfield 19, 3) := by decide +kernel
theorem dX9_out_72 : decode cX9_out 72 = .ok (.getfield 134, 3) := by decide +kernel
theorem dX9_out_75 : decode cX9_out 75 = .ok (.invokestatic 147, 3) := by decide +kernel
theorem dX9_out_78 : decode cX9_out 78 = .ok (.ireturn, 1) := by decide +kernel
theorem zm_X9_out : ZMv "ClassOfMany" yX9_out cX9_out 2 (some .int) 1 := ⟨kw_3_196, kw_3_194, kw_3_195, kw_1_1, by decide +kernel, by decide⟩
def zf_X9_out_j47 (M : ZMem) : Option (Int32 × ZMem) :=
  some ((-1 : Int32), M)
def zf_X9_out (n : Nat) (a1 : Int32) (M : ZMem) : Option (Int32 × ZMem) :=
  zb1 (zf_X9_isMember a1 M) (fun v28 => (if v28 = 0 then (zf_X9_out_j47 M) else zb1 (zf_X9_has (M 12 4) a1) (fun v29 => (if v29 = 0 then zb1 (zf_X9_isReached n a1 M) (fun v30 => (if v30 = 0 then (zf_X9_out_j47 M) else zdy M 0 0 (7, 17) (fun o31 => (if (M 12 0) ≤ (M o31 10) then zb1 (zf_X9_remember M) (fun M32 => zput M32 12 4 ((M32 12 4) ||| ((1 : Int32) <<< (a1 &&& 31))) (fun M33 => zb1 (zf_J6_bitCount_0f7a4 (M33 12 4)) (fun v34 => some (v34, M33)))) else (zf_X9_out_j47 M))))) else (zf_X9_out_j47 M)))))
set_option maxHeartbeats 4000000 in
set_option maxRecDepth 100000 in
theorem zc_X9_out {l : Launch} {D : va_G} {ad : Nat → Nat} {cA : Nat → ClassId} {n : Nat} {a1 : Int32} {M : ZMem} {r : Int32} {M' : ZMem} (hf : zf_X9_out n a1 M = some (r, M')) : ZCt l D ad cA yX9_out cX9_out 2 (some .int) 5 [.ref (ad 0), .int a1] M (some (.int r)) M' := by
  refine zct (by decide +kernel) (Nat.le_of_ble_eq_true rfl) (lv := [(0, .ref (ad 0)), (1, .int a1)]) rfl (fun E hl hD had hcA hN hC hR => ?_)
  subst hl; subst hD; subst had; subst hcA
  unfold zf_X9_out at hf
  refine zw_aload_n hC dX9_out_0 rfl 0 rfl ?_
  refine zw_iload_n hC dX9_out_1 rfl 1 rfl ?_
  obtain ⟨v28, hc28, hf⟩ := zb1_some hf
  refine zw_cV hC [.int a1] [] (st1 := [.int v28]) zm_X9_isMember (zc_X9_isMember hc28) zk_0 rfl kw_3_197 dX9_out_2 rfl (by decide) (Nat.le_of_ble_eq_true rfl) rfl rfl ?_
  have hj47 : zf_X9_out_j47 M = some (r, M') → ZW E 47 [] [] M := by
    intro  hf
    unfold zf_X9_out_j47 at hf
    refine zw_iconst hC (v := (-1 : Int32)) dX9_out_47 (by decide) ?_
    obtain ⟨h1, h2⟩ := Prod.mk.inj (Option.some.inj hf)
    subst h1; subst h2
    exact zw_iret hC hR dX9_out_48
  refine zw_if_eq hC 47 hf dX9_out_5 (by decide) (fun hf => ?_) (fun hf => ?_)
  · exact zw_sub [] rfl (hj47 hf)
  · refine zw_aload_n hC dX9_out_8 rfl 0 rfl ?_
    refine zw_getr (k' := 12) hC zF_ClassOfMany_now zk_0 rfl dX9_out_9 kw_2_169 ?_
    refine zw_geti hC zF_Standing_out zk_12 dX9_out_12 kw_1_146 ?_
    refine zw_iload_n hC dX9_out_15 rfl 1 rfl ?_
    obtain ⟨v29, hc29, hf⟩ := zb1_some hf
    refine zw_cS hC [.int (M 12 4), .int a1] [] (st1 := [.int v29]) zm_X9_has (zc_X9_has hc29) kw_3_201 dX9_out_16 rfl (by decide) (Nat.le_of_ble_eq_true rfl) rfl rfl ?_
    refine zw_if_ne hC 47 hf dX9_out_19 (by decide) (fun hf => ?_) (fun hf => ?_)
    · exact zw_sub [] rfl (hj47 hf)
    · refine zw_aload_n hC dX9_out_22 rfl 0 rfl ?_
      refine zw_iload_n hC dX9_out_23 rfl 1 rfl ?_
      obtain ⟨v30, hc30, hf⟩ := zb1_some hf
      refine zw_cV hC [.int a1] [] (st1 := [.int v30]) zm_X9_isReached (zc_X9_isReached hc30) zk_0 rfl kw_3_202 dX9_out_24 rfl (by decide) (Nat.le_of_ble_eq_true rfl) rfl rfl ?_
      refine zw_if_eq hC 47 hf dX9_out_27 (by decide) (fun hf => ?_) (fun hf => ?_)
      · exact zw_sub [] rfl (hj47 hf)
      · refine zw_aload_n hC dX9_out_30 rfl 0 rfl ?_
        refine zw_getr (k' := 12) hC zF_ClassOfMany_now zk_0 rfl dX9_out_31 kw_2_169 ?_
        refine zw_geti hC zF_Standing_today zk_12 dX9_out_34 kw_1_133 ?_
        refine zw_aload_n hC dX9_out_37 rfl 0 rfl ?_
        refine zw_getd hC hf zF_ClassOfMany_told zk_0 dX9_out_38 kw_2_168 (fun o31 ho31 hf => ?_)
        refine zw_geti hC zF_Told_till ho31 dX9_out_41 kw_1_78 ?_
        refine zw_icmp_le hC 49 hf dX9_out_44 (by decide) (fun hf => ?_) (fun hf => ?_)
        · refine zw_aload_n hC dX9_out_49 rfl 0 rfl ?_
          obtain ⟨M32, hcM32, hf⟩ := zb1_some hf
          refine zw_cV hC [] [] (st1 := []) zm_X9_remember (zc_X9_remember hcM32) zk_0 rfl kw_3_153 dX9_out_50 rfl (by decide) (Nat.le_of_ble_eq_true rfl) rfl rfl ?_
          refine zw_aload_n hC dX9_out_53 rfl 0 rfl ?_
          refine zw_getr (k' := 12) hC zF_ClassOfMany_now zk_0 rfl dX9_out_54 kw_2_169 ?_
          refine zw_dup hC dX9_out_57 rfl ?_
          refine zw_geti hC zF_Standing_out zk_12 dX9_out_58 kw_1_146 ?_
          refine zw_iconst hC (v := (1 : Int32)) dX9_out_61 (by decide) ?_
          refine zw_iload_n hC dX9_out_62 rfl 1 rfl ?_
          refine zw_ishl hC dX9_out_63 ?_
          refine zw_ior hC dX9_out_64 ?_
          refine zw_puti hC hf zF_Standing_out zk_12 dX9_out_65 kw_1_146 (fun M33 hf => ?_)
          refine zw_aload_n hC dX9_out_68 rfl 0 rfl ?_
          refine zw_getr (k' := 12) hC zF_ClassOfMany_now zk_0 rfl dX9_out_69 kw_2_169 ?_
          refine zw_geti hC zF_Standing_out zk_12 dX9_out_72 kw_1_146 ?_
          obtain ⟨v34, hc34, hf⟩ := zb1_some hf
          refine zw_cS hC [.int (M33 12 4)] [] (st1 := [.int v34]) zm_J6_bitCount_0f7a4 (zc_J6_bitCount_0f7a4 hc34) kw_3_213 dX9_out_75 rfl (by decide) (Nat.le_of_ble_eq_true rfl) rfl rfl ?_
          obtain ⟨h1, h2⟩ := Prod.mk.inj (Option.some.inj hf)
          subst h1; subst h2
          exact zw_iret hC hR dX9_out_78
        · exact zw_sub [] rfl (hj47 hf)
/-! ClassOfMany.file(I)I -/
theorem dX9_file_0 : decode cX9_file 0 = .ok (.aload_n 0, 1) := by decide +kernel
theorem dX9_file_1 : decode cX9_file 1 = .ok (.iload_n 1, 1) := by decide +kernel
theorem dX9_file_2 : decode cX9_file 2 = .ok (.invokevirtual 130, 3) := by decide +kernel
theorem dX9_file_5 : decode cX9_file 5 = .ok (.ifCond .eq 39, 3) := by decide +kernel
theorem dX9_file_8 : decode cX9_file 8 = .ok (.aload_n 0, 1) := by decide +kernel
theorem dX9_file_9 : decode cX9_file 9 = .ok (.getfield 19, 3) := by decide +kernel
theorem dX9_file_12 : decode cX9_file 12 = .ok (.getfield 134, 3) := by decide +kernel
theorem dX9_file_15 : decode cX9_file 15 = .ok (.iload_n 1, 1) := by decide +kernel
theorem dX9_file_16 : decode cX9_file 16 = .ok (.invokestatic 137, 3) := by decide +kernel
theorem dX9_file_19 : decode cX9_file 19 = .ok (.ifCond .ne 25, 3) := by decide +kernel
theorem dX9_file_22 : decode cX9_file 22 = .ok (.aload_n 0, 1) := by decide +kernel
theorem dX9_file_23 : decode cX9_file 23 = .ok (.getfield 19, 3) := by decide +kernel
theorem dX9_file_26 : decode cX9_file 26 = .ok (.getfield 153, 3) := by decide +kernel
theorem dX9_file_29 : decode cX9_file 29 = .ok (.iload_n 1, 1) := by decide +kernel
theorem dX9_file_30 : decode cX9_file 30 = .ok (.invokestatic 137, 3) := by decide +kernel
theorem dX9_file_33 : decode cX9_file 33 = .ok (.ifCond .ne 11, 3) := by decide +kernel
theorem dX9_file_36 : decode cX9_file 36 = .ok (.aload_n 0, 1) := by decide +kernel
theorem dX9_file_37 : decode cX9_file 37 = .ok (.iload_n 1, 1) := by decide +kernel
theorem dX9_file_38 : decode cX9_file 38 = .ok (.invokevirtual 141, 3) := by decide +kernel
theorem dX9_file_41 : decode cX9_file 41 = .ok (.ifCond .ne 5, 3) := by decide +kernel
theorem dX9_file_44 : decode cX9_file 44 = .ok (.iconst (-1), 1) := by decide +kernel
theorem dX9_file_45 : decode cX9_file 45 = .ok (.ireturn, 1) := by decide +kernel
theorem dX9_file_46 : decode cX9_file 46 = .ok (.aload_n 0, 1) := by decide +kernel
theorem dX9_file_47 : decode cX9_file 47 = .ok (.invokevirtual 101, 3) := by decide +kernel
theorem dX9_file_50 : decode cX9_file 50 = .ok (.aload_n 0, 1) := by decide +kernel
theorem dX9_file_51 : decode cX9_file 51 = .ok (.getfield 19, 3) := by decide +kernel
theorem dX9_file_54 : decode cX9_file 54 = .ok (.dup, 1) := by decide +kernel
theorem dX9_file_55 : decode cX9_file 55 = .ok (.getfield 153, 3) := by decide +kernel
theorem dX9_file_58 : decode cX9_file 58 = .ok (.iconst 1, 1) := by decide +kernel
theorem dX9_file_59 : decode cX9_file 59 = .ok (.iload_n 1, 1) := by decide +kernel
theorem dX9_file_60 : decode cX9_file 60 = .ok (.ishl, 1) := by decide +kernel
theorem dX9_file_61 : decode cX9_file 61 = .ok (.ior, 1) := by decide +kernel
theorem dX9_file_62 : decode cX9_file 62 = .ok (.putfield 153, 3) := by decide +kernel
theorem dX9_file_65 : decode cX9_file 65 = .ok (.aload_n 0, 1) := by decide +kernel
theorem dX9_file_66 : decode cX9_file 66 = .ok (.getfield 19, 3) := by decide +kernel
theorem dX9_file_69 : decode cX9_file 69 = .ok (.getfield 153, 3) := by decide +kernel
theorem dX9_file_72 : decode cX9_file 72 = .ok (.invokestatic 147, 3) := by decide +kernel
theorem dX9_file_75 : decode cX9_file 75 = .ok (.ireturn, 1) := by decide +kernel
theorem zm_X9_file : ZMv "ClassOfMany" yX9_file cX9_file 2 (some .int) 1 := ⟨kw_3_222, kw_3_220, kw_3_221, kw_1_1, by decide +kernel, by decide⟩
def zf_X9_file_j44 (M : ZMem) : Option (Int32 × ZMem) :=
  some ((-1 : Int32), M)
def zf_X9_file (n : Nat) (a1 : Int32) (M : ZMem) : Option (Int32 × ZMem) :=
  zb1 (zf_X9_isMember a1 M) (fun v28 => (if v28 = 0 then (zf_X9_file_j44 M) else zb1 (zf_X9_has (M 12 4) a1) (fun v29 => (if v29 = 0 then zb1 (zf_X9_has (M 12 5) a1) (fun v30 => (if v30 = 0 then zb1 (zf_X9_isReached n a1 M) (fun v31 => (if v31 = 0 then (zf_X9_file_j44 M) else zb1 (zf_X9_remember M) (fun M32 => zput M32 12 5 ((M32 12 5) ||| ((1 : Int32) <<< (a1 &&& 31))) (fun M33 => zb1 (zf_J6_bitCount_0f7a4 (M33 12 5)) (fun v34 => some (v34, M33)))))) else (zf_X9_file_j44 M))) else (zf_X9_file_j44 M)))))
set_option maxHeartbeats 4000000 in
set_option maxRecDepth 100000 in
theorem zc_X9_file {l : Launch} {D : va_G} {ad : Nat → Nat} {cA : Nat → ClassId} {n : Nat} {a1 : Int32} {M : ZMem} {r : Int32} {M' : ZMem} (hf : zf_X9_file n a1 M = some (r, M')) : ZCt l D ad cA yX9_file cX9_file 2 (some .int) 5 [.ref (ad 0), .int a1] M (some (.int r)) M' := by
  refine zct (by decide +kernel) (Nat.le_of_ble_eq_true rfl) (lv := [(0, .ref (ad 0)), (1, .int a1)]) rfl (fun E hl hD had hcA hN hC hR => ?_)
  subst hl; subst hD; subst had; subst hcA
  unfold zf_X9_file at hf
  refine zw_aload_n hC dX9_file_0 rfl 0 rfl ?_
  refine zw_iload_n hC dX9_file_1 rfl 1 rfl ?_
  obtain ⟨v28, hc28, hf⟩ := zb1_some hf
  refine zw_cV hC [.int a1] [] (st1 := [.int v28]) zm_X9_isMember (zc_X9_isMember hc28) zk_0 rfl kw_3_197 dX9_file_2 rfl (by decide) (Nat.le_of_ble_eq_true rfl) rfl rfl ?_
  have hj44 : zf_X9_file_j44 M = some (r, M') → ZW E 44 [] [] M := by
    intro  hf
    unfold zf_X9_file_j44 at hf
    refine zw_iconst hC (v := (-1 : Int32)) dX9_file_44 (by decide) ?_
    obtain ⟨h1, h2⟩ := Prod.mk.inj (Option.some.inj hf)
    subst h1; subst h2
    exact zw_iret hC hR dX9_file_45
  refine zw_if_eq hC 44 hf dX9_file_5 (by decide) (fun hf => ?_) (fun hf => ?_)
  · exact zw_sub [] rfl (hj44 hf)
  · refine zw_aload_n hC dX9_file_8 rfl 0 rfl ?_
    refine zw_getr (k' := 12) hC zF_ClassOfMany_now zk_0 rfl dX9_file_9 kw_2_169 ?_
    refine zw_geti hC zF_Standing_out zk_12 dX9_file_12 kw_1_146 ?_
    refine zw_iload_n hC dX9_file_15 rfl 1 rfl ?_
    obtain ⟨v29, hc29, hf⟩ := zb1_some hf
    refine zw_cS hC [.int (M 12 4), .int a1] [] (st1 := [.int v29]) zm_X9_has (zc_X9_has hc29) kw_3_201 dX9_file_16 rfl (by decide) (Nat.le_of_ble_eq_true rfl) rfl rfl ?_
    refine zw_if_ne hC 44 hf dX9_file_19 (by decide) (fun hf => ?_) (fun hf => ?_)
    · exact zw_sub [] rfl (hj44 hf)
    · refine zw_aload_n hC dX9_file_22 rfl 0 rfl ?_
      refine zw_getr (k' := 12) hC zF_ClassOfMany_now zk_0 rfl dX9_file_23 kw_2_169 ?_
      refine zw_geti hC zF_Standing_filed zk_12 dX9_file_26 kw_1_150 ?_
      refine zw_iload_n hC dX9_file_29 rfl 1 rfl ?_
      obtain ⟨v30, hc30, hf⟩ := zb1_some hf
      refine zw_cS hC [.int (M 12 5), .int a1] [] (st1 := [.int v30]) zm_X9_has (zc_X9_has hc30) kw_3_201 dX9_file_30 rfl (by decide) (Nat.le_of_ble_eq_true rfl) rfl rfl ?_
      refine zw_if_ne hC 44 hf dX9_file_33 (by decide) (fun hf => ?_) (fun hf => ?_)
      · exact zw_sub [] rfl (hj44 hf)
      · refine zw_aload_n hC dX9_file_36 rfl 0 rfl ?_
        refine zw_iload_n hC dX9_file_37 rfl 1 rfl ?_
        obtain ⟨v31, hc31, hf⟩ := zb1_some hf
        refine zw_cV hC [.int a1] [] (st1 := [.int v31]) zm_X9_isReached (zc_X9_isReached hc31) zk_0 rfl kw_3_202 dX9_file_38 rfl (by decide) (Nat.le_of_ble_eq_true rfl) rfl rfl ?_
        refine zw_if_ne hC 46 hf dX9_file_41 (by decide) (fun hf => ?_) (fun hf => ?_)
        · refine zw_aload_n hC dX9_file_46 rfl 0 rfl ?_
          obtain ⟨M32, hcM32, hf⟩ := zb1_some hf
          refine zw_cV hC [] [] (st1 := []) zm_X9_remember (zc_X9_remember hcM32) zk_0 rfl kw_3_153 dX9_file_47 rfl (by decide) (Nat.le_of_ble_eq_true rfl) rfl rfl ?_
          refine zw_aload_n hC dX9_file_50 rfl 0 rfl ?_
          refine zw_getr (k' := 12) hC zF_ClassOfMany_now zk_0 rfl dX9_file_51 kw_2_169 ?_
          refine zw_dup hC dX9_file_54 rfl ?_
          refine zw_geti hC zF_Standing_filed zk_12 dX9_file_55 kw_1_150 ?_
          refine zw_iconst hC (v := (1 : Int32)) dX9_file_58 (by decide) ?_
          refine zw_iload_n hC dX9_file_59 rfl 1 rfl ?_
          refine zw_ishl hC dX9_file_60 ?_
          refine zw_ior hC dX9_file_61 ?_
          refine zw_puti hC hf zF_Standing_filed zk_12 dX9_file_62 kw_1_150 (fun M33 hf => ?_)
          refine zw_aload_n hC dX9_file_65 rfl 0 rfl ?_
          refine zw_getr (k' := 12) hC zF_ClassOfMany_now zk_0 rfl dX9_file_66 kw_2_169 ?_
          refine zw_geti hC zF_Standing_filed zk_12 dX9_file_69 kw_1_150 ?_
          obtain ⟨v34, hc34, hf⟩ := zb1_some hf
          refine zw_cS hC [.int (M33 12 5)] [] (st1 := [.int v34]) zm_J6_bitCount_0f7a4 (zc_J6_bitCount_0f7a4 hc34) kw_3_213 dX9_file_72 rfl (by decide) (Nat.le_of_ble_eq_true rfl) rfl rfl ?_
          obtain ⟨h1, h2⟩ := Prod.mk.inj (Option.some.inj hf)
          subst h1; subst h2
          exact zw_iret hC hR dX9_file_75
        · exact zw_sub [] rfl (hj44 hf)
/-! ClassOfMany.lazy(IZ)Z -/
theorem dX9_lazy_0 : decode cX9_lazy 0 = .ok (.aload_n 0, 1) := by decide +kernel
theorem dX9_lazy_1 : decode cX9_lazy 1 = .ok (.iload_n 1, 1) := by decide +kernel
theorem dX9_lazy_2 : decode cX9_lazy 2 = .ok (.invokevirtual 130, 3) := by decide +kernel
theorem dX9_lazy_5 : decode cX9_lazy 5 = .ok (.ifCond .eq 18, 3) := by decide +kernel
theorem dX9_lazy_8 : decode cX9_lazy 8 = .ok (.aload_n 0, 1) := by decide +kernel
theorem dX9_lazy_9 : decode cX9_lazy 9 = .ok (.getfield 19, 3) := by decide +kernel
theorem dX9_lazy_12 : decode cX9_lazy 12 = .ok (.getfield 156, 3) := by decide +kernel
theorem dX9_lazy_15 : decode cX9_lazy 15 = .ok (.iload_n 1, 1) := by decide +kernel
theorem dX9_lazy_16 : decode cX9_lazy 16 = .ok (.invokestatic 137, 3) := by decide +kernel
theorem dX9_lazy_19 : decode cX9_lazy 19 = .ok (.iload_n 2, 1) := by decide +kernel
theorem dX9_lazy_20 : decode cX9_lazy 20 = .ok (.if_icmp .ne 5, 3) := by decide +kernel
theorem dX9_lazy_23 : decode cX9_lazy 23 = .ok (.iconst 0, 1) := by decide +kernel
theorem dX9_lazy_24 : decode cX9_lazy 24 = .ok (.ireturn, 1) := by decide +kernel
theorem dX9_lazy_25 : decode cX9_lazy 25 = .ok (.aload_n 0, 1) := by decide +kernel
theorem dX9_lazy_26 : decode cX9_lazy 26 = .ok (.invokevirtual 101, 3) := by decide +kernel
theorem dX9_lazy_29 : decode cX9_lazy 29 = .ok (.aload_n 0, 1) := by decide +kernel
theorem dX9_lazy_30 : decode cX9_lazy 30 = .ok (.getfield 19, 3) := by decide +kernel
theorem dX9_lazy_33 : decode cX9_lazy 33 = .ok (.dup, 1) := by decide +kernel
theorem dX9_lazy_34 : decode cX9_lazy 34 = .ok (.getfield 156, 3) := by decide +kernel
theorem dX9_lazy_37 : decode cX9_lazy 37 = .ok (.iconst 1, 1) := by decide +kernel
theorem dX9_lazy_38 : decode cX9_lazy 38 = .ok (.iload_n 1, 1) := by decide +kernel
theorem dX9_lazy_39 : decode cX9_lazy 39 = .ok (.ishl, 1) := by decide +kernel
theorem dX9_lazy_40 : decode cX9_lazy 40 = .ok (.ixor, 1) := by decide +kernel
theorem dX9_lazy_41 : decode cX9_lazy 41 = .ok (.putfield 156, 3) := by decide +kernel
theorem dX9_lazy_44 : decode cX9_lazy 44 = .ok (.iconst 1, 1) := by decide +kernel
theorem dX9_lazy_45 : decode cX9_lazy 45 = .ok (.ireturn, 1) := by decide +kernel
theorem zm_X9_lazy : ZMv "ClassOfMany" yX9_lazy cX9_lazy 3 (some .boolean) 2 := ⟨kw_3_226, kw_3_224, kw_3_225, kw_1_1, by decide +kernel, by decide⟩
def zf_X9_lazy_j23 (M : ZMem) : Option (Int32 × ZMem) :=
  some ((0 : Int32), M)
def zf_X9_lazy (a1 : Int32) (a2 : Int32) (M : ZMem) : Option (Int32 × ZMem) :=
  zb1 (zf_X9_isMember a1 M) (fun v25 => (if v25 = 0 then (zf_X9_lazy_j23 M) else zb1 (zf_X9_has (M 12 6) a1) (fun v26 => (if v26 = a2 then (zf_X9_lazy_j23 M) else zb1 (zf_X9_remember M) (fun M27 => zput M27 12 6 ((M27 12 6) ^^^ ((1 : Int32) <<< (a1 &&& 31))) (fun M28 => some ((1 : Int32), M28)))))))
set_option maxHeartbeats 4000000 in
set_option maxRecDepth 100000 in
theorem zc_X9_lazy {l : Launch} {D : va_G} {ad : Nat → Nat} {cA : Nat → ClassId} {a1 : Int32} {a2 : Int32} {M : ZMem} {r : Int32} {M' : ZMem} (hf : zf_X9_lazy a1 a2 M = some (r, M')) : ZCt l D ad cA yX9_lazy cX9_lazy 3 (some .boolean) 4 [.ref (ad 0), .int a1, .int a2] M (some (.int r)) M' := by
  refine zct (by decide +kernel) (Nat.le_of_ble_eq_true rfl) (lv := [(0, .ref (ad 0)), (1, .int a1), (2, .int a2)]) rfl (fun E hl hD had hcA hN hC hR => ?_)
  subst hl; subst hD; subst had; subst hcA
  unfold zf_X9_lazy at hf
  refine zw_aload_n hC dX9_lazy_0 rfl 0 rfl ?_
  refine zw_iload_n hC dX9_lazy_1 rfl 1 rfl ?_
  obtain ⟨v25, hc25, hf⟩ := zb1_some hf
  refine zw_cV hC [.int a1] [] (st1 := [.int v25]) zm_X9_isMember (zc_X9_isMember hc25) zk_0 rfl kw_3_197 dX9_lazy_2 rfl (by decide) (Nat.le_of_ble_eq_true rfl) rfl rfl ?_
  have hj23 : zf_X9_lazy_j23 M = some (r, M') → ZW E 23 [] [] M := by
    intro  hf
    unfold zf_X9_lazy_j23 at hf
    refine zw_iconst hC (v := (0 : Int32)) dX9_lazy_23 (by decide) ?_
    obtain ⟨h1, h2⟩ := Prod.mk.inj (Option.some.inj hf)
    subst h1; subst h2
    exact zw_zret hC hR rfl dX9_lazy_24
  refine zw_if_eq hC 23 hf dX9_lazy_5 (by decide) (fun hf => ?_) (fun hf => ?_)
  · exact zw_sub [] rfl (hj23 hf)
  · refine zw_aload_n hC dX9_lazy_8 rfl 0 rfl ?_
    refine zw_getr (k' := 12) hC zF_ClassOfMany_now zk_0 rfl dX9_lazy_9 kw_2_169 ?_
    refine zw_geti hC zF_Standing_lazy zk_12 dX9_lazy_12 kw_1_154 ?_
    refine zw_iload_n hC dX9_lazy_15 rfl 1 rfl ?_
    obtain ⟨v26, hc26, hf⟩ := zb1_some hf
    refine zw_cS hC [.int (M 12 6), .int a1] [] (st1 := [.int v26]) zm_X9_has (zc_X9_has hc26) kw_3_201 dX9_lazy_16 rfl (by decide) (Nat.le_of_ble_eq_true rfl) rfl rfl ?_
    refine zw_iload_n hC dX9_lazy_19 rfl 2 rfl ?_
    refine zw_icmp_ne hC 25 hf dX9_lazy_20 (by decide) (fun hf => ?_) (fun hf => ?_)
    · refine zw_aload_n hC dX9_lazy_25 rfl 0 rfl ?_
      obtain ⟨M27, hcM27, hf⟩ := zb1_some hf
      refine zw_cV hC [] [] (st1 := []) zm_X9_remember (zc_X9_remember hcM27) zk_0 rfl kw_3_153 dX9_lazy_26 rfl (by decide) (Nat.le_of_ble_eq_true rfl) rfl rfl ?_
      refine zw_aload_n hC dX9_lazy_29 rfl 0 rfl ?_
      refine zw_getr (k' := 12) hC zF_ClassOfMany_now zk_0 rfl dX9_lazy_30 kw_2_169 ?_
      refine zw_dup hC dX9_lazy_33 rfl ?_
      refine zw_geti hC zF_Standing_lazy zk_12 dX9_lazy_34 kw_1_154 ?_
      refine zw_iconst hC (v := (1 : Int32)) dX9_lazy_37 (by decide) ?_
      refine zw_iload_n hC dX9_lazy_38 rfl 1 rfl ?_
      refine zw_ishl hC dX9_lazy_39 ?_
      refine zw_ixor hC dX9_lazy_40 ?_
      refine zw_puti hC hf zF_Standing_lazy zk_12 dX9_lazy_41 kw_1_154 (fun M28 hf => ?_)
      refine zw_iconst hC (v := (1 : Int32)) dX9_lazy_44 (by decide) ?_
      obtain ⟨h1, h2⟩ := Prod.mk.inj (Option.some.inj hf)
      subst h1; subst h2
      exact zw_zret hC hR rfl dX9_lazy_45
    · exact zw_sub [] rfl (hj23 hf)
/-! ClassOfMany.isFund(I)Z -/
theorem dX9_isFund_0 : decode cX9_isFund 0 = .ok (.iload_n 0, 1) := by decide +kernel
theorem dX9_isFund_1 : decode cX9_isFund 1 = .ok (.ifCond .lt 14, 3) := by decide +kernel
theorem dX9_isFund_4 : decode cX9_isFund 4 = .ok (.iload_n 0, 1) := by decide +kernel
theorem dX9_isFund_5 : decode cX9_isFund 5 = .ok (.ldc_w 360, 3) := by decide +kernel
theorem dX9_isFund_8 : decode cX9_isFund 8 = .ok (.if_icmp .gt 7, 3) := by decide +kernel
theorem dX9_isFund_11 : decode cX9_isFund 11 = .ok (.iconst 1, 1) := by decide +kernel
theorem dX9_isFund_12 : decode cX9_isFund 12 = .ok (.goto 4, 3) := by decide +kernel
theorem dX9_isFund_15 : decode cX9_isFund 15 = .ok (.iconst 0, 1) := by decide +kernel
theorem dX9_isFund_16 : decode cX9_isFund 16 = .ok (.ireturn, 1) := by decide +kernel
theorem zm_X9_isFund : ZMs yX9_isFund cX9_isFund 1 (some .boolean) 1 := ⟨kw_3_233, kw_3_232, kw_1_1, by decide +kernel, by decide⟩
def zf_X9_isFund_j16 (v21 : Int32) : Option (Int32) :=
  zbz v21 (some v21)
def zf_X9_isFund_j15 : Option (Int32) :=
  (zf_X9_isFund_j16 (0 : Int32))
def zf_X9_isFund (a0 : Int32) : Option (Int32) :=
  (if a0 < 0 then (zf_X9_isFund_j15) else (if (99999 : Int32) < a0 then (zf_X9_isFund_j15) else (zf_X9_isFund_j16 (1 : Int32))))
set_option maxHeartbeats 4000000 in
set_option maxRecDepth 100000 in
theorem zc_X9_isFund {l : Launch} {D : va_G} {ad : Nat → Nat} {cA : Nat → ClassId} {a0 : Int32} {M : ZMem} {r : Int32} (hf : zf_X9_isFund a0 = some r) : ZCt l D ad cA yX9_isFund cX9_isFund 1 (some .boolean) 1 [.int a0] M (some (.int r)) M := by
  refine zct (by decide +kernel) (Nat.le_of_ble_eq_true rfl) (lv := [(0, .int a0)]) rfl (fun E hl hD had hcA hN hC hR => ?_)
  subst hl; subst hD; subst had; subst hcA
  unfold zf_X9_isFund at hf
  refine zw_iload_n hC dX9_isFund_0 rfl 0 rfl ?_
  have hj16 : ∀ (v21 : Int32), zf_X9_isFund_j16 v21 = some r → ZW E 16 [] [.int v21] M := by
    intro v21 hf
    unfold zf_X9_isFund_j16 at hf
    obtain ⟨hz, hf⟩ := zbz_some hf
    have h1 := Option.some.inj hf
    subst h1
    exact zw_zret hC hR hz dX9_isFund_16
  have hj15 : zf_X9_isFund_j15 = some r → ZW E 15 [] [] M := by
    intro  hf
    unfold zf_X9_isFund_j15 at hf
    refine zw_iconst hC (v := (0 : Int32)) dX9_isFund_15 (by decide) ?_
    exact hj16 (0 : Int32) hf
  refine zw_if_lt hC 15 hf dX9_isFund_1 (by decide) (fun hf => ?_) (fun hf => ?_)
  · exact zw_sub [] rfl (hj15 hf)
  · refine zw_iload_n hC dX9_isFund_4 rfl 0 rfl ?_
    refine zw_ldcw hC dX9_isFund_5 kw_3_234 ?_
    refine zw_icmp_gt hC 15 hf dX9_isFund_8 (by decide) (fun hf => ?_) (fun hf => ?_)
    · exact zw_sub [] rfl (hj15 hf)
    · refine zw_iconst hC (v := (1 : Int32)) dX9_isFund_11 (by decide) ?_
      refine zw_goto hC 16 dX9_isFund_12 (by decide) ?_
      exact zw_sub [] rfl (hj16 (1 : Int32) hf)
/-! ClassOfMany.fund(I)I -/
theorem dX9_fund_0 : decode cX9_fund 0 = .ok (.iload_n 1, 1) := by decide +kernel
theorem dX9_fund_1 : decode cX9_fund 1 = .ok (.invokestatic 159, 3) := by decide +kernel
theorem dX9_fund_4 : decode cX9_fund 4 = .ok (.ifCond .eq 14, 3) := by decide +kernel
theorem dX9_fund_7 : decode cX9_fund 7 = .ok (.iload_n 1, 1) := by decide +kernel
theorem dX9_fund_8 : decode cX9_fund 8 = .ok (.aload_n 0, 1) := by decide +kernel
theorem dX9_fund_9 : decode cX9_fund 9 = .ok (.getfield 19, 3) := by decide +kernel
theorem dX9_fund_12 : decode cX9_fund 12 = .ok (.getfield 162, 3) := by decide +kernel
theorem dX9_fund_15 : decode cX9_fund 15 = .ok (.if_icmp .ne 5, 3) := by decide +kernel
theorem dX9_fund_18 : decode cX9_fund 18 = .ok (.iconst (-1), 1) := by decide +kernel
theorem dX9_fund_19 : decode cX9_fund 19 = .ok (.ireturn, 1) := by decide +kernel
theorem dX9_fund_20 : decode cX9_fund 20 = .ok (.aload_n 0, 1) := by decide +kernel
theorem dX9_fund_21 : decode cX9_fund 21 = .ok (.invokevirtual 101, 3) := by decide +kernel
theorem dX9_fund_24 : decode cX9_fund 24 = .ok (.aload_n 0, 1) := by decide +kernel
theorem dX9_fund_25 : decode cX9_fund 25 = .ok (.getfield 19, 3) := by decide +kernel
theorem dX9_fund_28 : decode cX9_fund 28 = .ok (.getfield 162, 3) := by decide +kernel
theorem dX9_fund_31 : decode cX9_fund 31 = .ok (.istore_n 2, 1) := by decide +kernel
theorem dX9_fund_32 : decode cX9_fund 32 = .ok (.aload_n 0, 1) := by decide +kernel
theorem dX9_fund_33 : decode cX9_fund 33 = .ok (.getfield 19, 3) := by decide +kernel
theorem dX9_fund_36 : decode cX9_fund 36 = .ok (.iload_n 1, 1) := by decide +kernel
theorem dX9_fund_37 : decode cX9_fund 37 = .ok (.putfield 162, 3) := by decide +kernel
theorem dX9_fund_40 : decode cX9_fund 40 = .ok (.iload_n 2, 1) := by decide +kernel
theorem dX9_fund_41 : decode cX9_fund 41 = .ok (.ireturn, 1) := by decide +kernel
theorem zm_X9_fund : ZMv "ClassOfMany" yX9_fund cX9_fund 3 (some .int) 1 := ⟨kw_3_230, kw_3_228, kw_3_229, kw_1_1, by decide +kernel, by decide⟩
def zf_X9_fund_j18 (M : ZMem) : Option (Int32 × ZMem) :=
  some ((-1 : Int32), M)
def zf_X9_fund (a1 : Int32) (M : ZMem) : Option (Int32 × ZMem) :=
  zb1 (zf_X9_isFund a1) (fun v24 => (if v24 = 0 then (zf_X9_fund_j18 M) else (if a1 = (M 12 7) then (zf_X9_fund_j18 M) else zb1 (zf_X9_remember M) (fun M25 => zput M25 12 7 a1 (fun M26 => some ((M25 12 7), M26))))))
set_option maxHeartbeats 4000000 in
set_option maxRecDepth 100000 in
theorem zc_X9_fund {l : Launch} {D : va_G} {ad : Nat → Nat} {cA : Nat → ClassId} {a1 : Int32} {M : ZMem} {r : Int32} {M' : ZMem} (hf : zf_X9_fund a1 M = some (r, M')) : ZCt l D ad cA yX9_fund cX9_fund 3 (some .int) 4 [.ref (ad 0), .int a1] M (some (.int r)) M' := by
  refine zct (by decide +kernel) (Nat.le_of_ble_eq_true rfl) (lv := [(0, .ref (ad 0)), (1, .int a1)]) rfl (fun E hl hD had hcA hN hC hR => ?_)
  subst hl; subst hD; subst had; subst hcA
  unfold zf_X9_fund at hf
  refine zw_iload_n hC dX9_fund_0 rfl 1 rfl ?_
  obtain ⟨v24, hc24, hf⟩ := zb1_some hf
  refine zw_cS hC [.int a1] [] (st1 := [.int v24]) zm_X9_isFund (zc_X9_isFund hc24) kw_3_231 dX9_fund_1 rfl (by decide) (Nat.le_of_ble_eq_true rfl) rfl rfl ?_
  have hj18 : zf_X9_fund_j18 M = some (r, M') → ZW E 18 [] [] M := by
    intro  hf
    unfold zf_X9_fund_j18 at hf
    refine zw_iconst hC (v := (-1 : Int32)) dX9_fund_18 (by decide) ?_
    obtain ⟨h1, h2⟩ := Prod.mk.inj (Option.some.inj hf)
    subst h1; subst h2
    exact zw_iret hC hR dX9_fund_19
  refine zw_if_eq hC 18 hf dX9_fund_4 (by decide) (fun hf => ?_) (fun hf => ?_)
  · exact zw_sub [] rfl (hj18 hf)
  · refine zw_iload_n hC dX9_fund_7 rfl 1 rfl ?_
    refine zw_aload_n hC dX9_fund_8 rfl 0 rfl ?_
    refine zw_getr (k' := 12) hC zF_ClassOfMany_now zk_0 rfl dX9_fund_9 kw_2_169 ?_
    refine zw_geti hC zF_Standing_fund zk_12 dX9_fund_12 kw_1_158 ?_
    refine zw_icmp_ne hC 20 hf dX9_fund_15 (by decide) (fun hf => ?_) (fun hf => ?_)
    · refine zw_aload_n hC dX9_fund_20 rfl 0 rfl ?_
      obtain ⟨M25, hcM25, hf⟩ := zb1_some hf
      refine zw_cV hC [] [] (st1 := []) zm_X9_remember (zc_X9_remember hcM25) zk_0 rfl kw_3_153 dX9_fund_21 rfl (by decide) (Nat.le_of_ble_eq_true rfl) rfl rfl ?_
      refine zw_aload_n hC dX9_fund_24 rfl 0 rfl ?_
      refine zw_getr (k' := 12) hC zF_ClassOfMany_now zk_0 rfl dX9_fund_25 kw_2_169 ?_
      refine zw_geti hC zF_Standing_fund zk_12 dX9_fund_28 kw_1_158 ?_
      refine zw_istore_n hC (lv' := [(2, .int (M25 12 7)), (0, .ref (zad E 0)), (1, .int a1)]) dX9_fund_31 rfl hN (by decide) rfl ?_
      refine zw_aload_n hC dX9_fund_32 rfl 1 rfl ?_
      refine zw_getr (k' := 12) hC zF_ClassOfMany_now zk_0 rfl dX9_fund_33 kw_2_169 ?_
      refine zw_iload_n hC dX9_fund_36 rfl 2 rfl ?_
      refine zw_puti hC hf zF_Standing_fund zk_12 dX9_fund_37 kw_1_158 (fun M26 hf => ?_)
      refine zw_iload_n hC dX9_fund_40 rfl 0 rfl ?_
      obtain ⟨h1, h2⟩ := Prod.mk.inj (Option.some.inj hf)
      subst h1; subst h2
      exact zw_iret hC hR dX9_fund_41
    · exact zw_sub [] rfl (hj18 hf)
/-! ClassOfMany.isRule(I)Z -/
theorem dX9_isRule_0 : decode cX9_isRule 0 = .ok (.iload_n 0, 1) := by decide +kernel
theorem dX9_isRule_1 : decode cX9_isRule 1 = .ok (.ifCond .lt 12, 3) := by decide +kernel
theorem dX9_isRule_4 : decode cX9_isRule 4 = .ok (.iload_n 0, 1) := by decide +kernel
theorem dX9_isRule_5 : decode cX9_isRule 5 = .ok (.iconst 3, 1) := by decide +kernel
theorem dX9_isRule_6 : decode cX9_isRule 6 = .ok (.if_icmp .ge 7, 3) := by decide +kernel
theorem dX9_isRule_9 : decode cX9_isRule 9 = .ok (.iconst 1, 1) := by decide +kernel
theorem dX9_isRule_10 : decode cX9_isRule 10 = .ok (.goto 4, 3) := by decide +kernel
theorem dX9_isRule_13 : decode cX9_isRule 13 = .ok (.iconst 0, 1) := by decide +kernel
theorem dX9_isRule_14 : decode cX9_isRule 14 = .ok (.ireturn, 1) := by decide +kernel
theorem zm_X9_isRule : ZMs yX9_isRule cX9_isRule 1 (some .boolean) 1 := ⟨kw_4_1, kw_4_0, kw_1_1, by decide +kernel, by decide⟩
def zf_X9_isRule_j14 (v21 : Int32) : Option (Int32) :=
  zbz v21 (some v21)
def zf_X9_isRule_j13 : Option (Int32) :=
  (zf_X9_isRule_j14 (0 : Int32))
def zf_X9_isRule (a0 : Int32) : Option (Int32) :=
  (if a0 < 0 then (zf_X9_isRule_j13) else (if (3 : Int32) ≤ a0 then (zf_X9_isRule_j13) else (zf_X9_isRule_j14 (1 : Int32))))
set_option maxHeartbeats 4000000 in
set_option maxRecDepth 100000 in
theorem zc_X9_isRule {l : Launch} {D : va_G} {ad : Nat → Nat} {cA : Nat → ClassId} {a0 : Int32} {M : ZMem} {r : Int32} (hf : zf_X9_isRule a0 = some r) : ZCt l D ad cA yX9_isRule cX9_isRule 1 (some .boolean) 1 [.int a0] M (some (.int r)) M := by
  refine zct (by decide +kernel) (Nat.le_of_ble_eq_true rfl) (lv := [(0, .int a0)]) rfl (fun E hl hD had hcA hN hC hR => ?_)
  subst hl; subst hD; subst had; subst hcA
  unfold zf_X9_isRule at hf
  refine zw_iload_n hC dX9_isRule_0 rfl 0 rfl ?_
  have hj14 : ∀ (v21 : Int32), zf_X9_isRule_j14 v21 = some r → ZW E 14 [] [.int v21] M := by
    intro v21 hf
    unfold zf_X9_isRule_j14 at hf
    obtain ⟨hz, hf⟩ := zbz_some hf
    have h1 := Option.some.inj hf
    subst h1
    exact zw_zret hC hR hz dX9_isRule_14
  have hj13 : zf_X9_isRule_j13 = some r → ZW E 13 [] [] M := by
    intro  hf
    unfold zf_X9_isRule_j13 at hf
    refine zw_iconst hC (v := (0 : Int32)) dX9_isRule_13 (by decide) ?_
    exact hj14 (0 : Int32) hf
  refine zw_if_lt hC 13 hf dX9_isRule_1 (by decide) (fun hf => ?_) (fun hf => ?_)
  · exact zw_sub [] rfl (hj13 hf)
  · refine zw_iload_n hC dX9_isRule_4 rfl 0 rfl ?_
    refine zw_iconst hC (v := (3 : Int32)) dX9_isRule_5 (by decide) ?_
    refine zw_icmp_ge hC 13 hf dX9_isRule_6 (by decide) (fun hf => ?_) (fun hf => ?_)
    · exact zw_sub [] rfl (hj13 hf)
    · refine zw_iconst hC (v := (1 : Int32)) dX9_isRule_9 (by decide) ?_
      refine zw_goto hC 14 dX9_isRule_10 (by decide) ?_
      exact zw_sub [] rfl (hj14 (1 : Int32) hf)
/-! ClassOfMany.rule(I)I -/
theorem dX9_rule_0 : decode cX9_rule 0 = .ok (.iload_n 1, 1) := by decide +kernel
theorem dX9_rule_1 : decode cX9_rule 1 = .ok (.invokestatic 165, 3) := by decide +kernel
theorem dX9_rule_4 : decode cX9_rule 4 = .ok (.ifCond .eq 14, 3) := by decide +kernel
theorem dX9_rule_7 : decode cX9_rule 7 = .ok (.iload_n 1, 1) := by decide +kernel
theorem dX9_rule_8 : decode cX9_rule 8 = .ok (.aload_n 0, 1) := by decide +kernel
theorem dX9_rule_9 : decode cX9_rule 9 = .ok (.getfield 19, 3) := by decide +kernel
theorem dX9_rule_12 : decode cX9_rule 12 = .ok (.getfield 168, 3) := by decide +kernel
theorem dX9_rule_15 : decode cX9_rule 15 = .ok (.if_icmp .ne 5, 3) := by decide +kernel
theorem dX9_rule_18 : decode cX9_rule 18 = .ok (.iconst (-1), 1) := by decide +kernel
theorem dX9_rule_19 : decode cX9_rule 19 = .ok (.ireturn, 1) := by decide +kernel
theorem dX9_rule_20 : decode cX9_rule 20 = .ok (.aload_n 0, 1) := by decide +kernel
theorem dX9_rule_21 : decode cX9_rule 21 = .ok (.invokevirtual 101, 3) := by decide +kernel
theorem dX9_rule_24 : decode cX9_rule 24 = .ok (.aload_n 0, 1) := by decide +kernel
theorem dX9_rule_25 : decode cX9_rule 25 = .ok (.getfield 19, 3) := by decide +kernel
theorem dX9_rule_28 : decode cX9_rule 28 = .ok (.getfield 168, 3) := by decide +kernel
theorem dX9_rule_31 : decode cX9_rule 31 = .ok (.istore_n 2, 1) := by decide +kernel
theorem dX9_rule_32 : decode cX9_rule 32 = .ok (.aload_n 0, 1) := by decide +kernel
theorem dX9_rule_33 : decode cX9_rule 33 = .ok (.getfield 19, 3) := by decide +kernel
theorem dX9_rule_36 : decode cX9_rule 36 = .ok (.iload_n 1, 1) := by decide +kernel
theorem dX9_rule_37 : decode cX9_rule 37 = .ok (.putfield 168, 3) := by decide +kernel
theorem dX9_rule_40 : decode cX9_rule 40 = .ok (.iload_n 2, 1) := by decide +kernel
theorem dX9_rule_41 : decode cX9_rule 41 = .ok (.ireturn, 1) := by decide +kernel
theorem zm_X9_rule : ZMv "ClassOfMany" yX9_rule cX9_rule 3 (some .int) 1 := ⟨kw_3_238, kw_3_236, kw_3_237, kw_1_1, by decide +kernel, by decide⟩
def zf_X9_rule_j18 (M : ZMem) : Option (Int32 × ZMem) :=
  some ((-1 : Int32), M)
def zf_X9_rule (a1 : Int32) (M : ZMem) : Option (Int32 × ZMem) :=
  zb1 (zf_X9_isRule a1) (fun v24 => (if v24 = 0 then (zf_X9_rule_j18 M) else (if a1 = (M 12 8) then (zf_X9_rule_j18 M) else zb1 (zf_X9_remember M) (fun M25 => zput M25 12 8 a1 (fun M26 => some ((M25 12 8), M26))))))
set_option maxHeartbeats 4000000 in
set_option maxRecDepth 100000 in
theorem zc_X9_rule {l : Launch} {D : va_G} {ad : Nat → Nat} {cA : Nat → ClassId} {a1 : Int32} {M : ZMem} {r : Int32} {M' : ZMem} (hf : zf_X9_rule a1 M = some (r, M')) : ZCt l D ad cA yX9_rule cX9_rule 3 (some .int) 4 [.ref (ad 0), .int a1] M (some (.int r)) M' := by
  refine zct (by decide +kernel) (Nat.le_of_ble_eq_true rfl) (lv := [(0, .ref (ad 0)), (1, .int a1)]) rfl (fun E hl hD had hcA hN hC hR => ?_)
  subst hl; subst hD; subst had; subst hcA
  unfold zf_X9_rule at hf
  refine zw_iload_n hC dX9_rule_0 rfl 1 rfl ?_
  obtain ⟨v24, hc24, hf⟩ := zb1_some hf
  refine zw_cS hC [.int a1] [] (st1 := [.int v24]) zm_X9_isRule (zc_X9_isRule hc24) kw_3_239 dX9_rule_1 rfl (by decide) (Nat.le_of_ble_eq_true rfl) rfl rfl ?_
  have hj18 : zf_X9_rule_j18 M = some (r, M') → ZW E 18 [] [] M := by
    intro  hf
    unfold zf_X9_rule_j18 at hf
    refine zw_iconst hC (v := (-1 : Int32)) dX9_rule_18 (by decide) ?_
    obtain ⟨h1, h2⟩ := Prod.mk.inj (Option.some.inj hf)
    subst h1; subst h2
    exact zw_iret hC hR dX9_rule_19
  refine zw_if_eq hC 18 hf dX9_rule_4 (by decide) (fun hf => ?_) (fun hf => ?_)
  · exact zw_sub [] rfl (hj18 hf)
  · refine zw_iload_n hC dX9_rule_7 rfl 1 rfl ?_
    refine zw_aload_n hC dX9_rule_8 rfl 0 rfl ?_
    refine zw_getr (k' := 12) hC zF_ClassOfMany_now zk_0 rfl dX9_rule_9 kw_2_169 ?_
    refine zw_geti hC zF_Standing_rule zk_12 dX9_rule_12 kw_1_161 ?_
    refine zw_icmp_ne hC 20 hf dX9_rule_15 (by decide) (fun hf => ?_) (fun hf => ?_)
    · refine zw_aload_n hC dX9_rule_20 rfl 0 rfl ?_
      obtain ⟨M25, hcM25, hf⟩ := zb1_some hf
      refine zw_cV hC [] [] (st1 := []) zm_X9_remember (zc_X9_remember hcM25) zk_0 rfl kw_3_153 dX9_rule_21 rfl (by decide) (Nat.le_of_ble_eq_true rfl) rfl rfl ?_
      refine zw_aload_n hC dX9_rule_24 rfl 0 rfl ?_
      refine zw_getr (k' := 12) hC zF_ClassOfMany_now zk_0 rfl dX9_rule_25 kw_2_169 ?_
      refine zw_geti hC zF_Standing_rule zk_12 dX9_rule_28 kw_1_161 ?_
      refine zw_istore_n hC (lv' := [(2, .int (M25 12 8)), (0, .ref (zad E 0)), (1, .int a1)]) dX9_rule_31 rfl hN (by decide) rfl ?_
      refine zw_aload_n hC dX9_rule_32 rfl 1 rfl ?_
      refine zw_getr (k' := 12) hC zF_ClassOfMany_now zk_0 rfl dX9_rule_33 kw_2_169 ?_
      refine zw_iload_n hC dX9_rule_36 rfl 2 rfl ?_
      refine zw_puti hC hf zF_Standing_rule zk_12 dX9_rule_37 kw_1_161 (fun M26 hf => ?_)
      refine zw_iload_n hC dX9_rule_40 rfl 0 rfl ?_
      obtain ⟨h1, h2⟩ := Prod.mk.inj (Option.some.inj hf)
      subst h1; subst h2
      exact zw_iret hC hR dX9_rule_41
    · exact zw_sub [] rfl (hj18 hf)
/-! ClassOfMany.everyone()I -/
theorem dX9_everyone_0 : decode cX9_everyone 0 = .ok (.iconst 1, 1) := by decide +kernel
theorem dX9_everyone_1 : decode cX9_everyone 1 = .ok (.aload_n 0, 1) := by decide +kernel
theorem dX9_everyone_2 : decode cX9_everyone 2 = .ok (.getfield 12, 3) := by decide +kernel
theorem dX9_everyone_5 : decode cX9_everyone 5 = .ok (.getfield 92, 3) := by decide +kernel
theorem dX9_everyone_8 : decode cX9_everyone 8 = .ok (.ishl, 1) := by decide +kernel
theorem dX9_everyone_9 : decode cX9_everyone 9 = .ok (.iconst 1, 1) := by decide +kernel
theorem dX9_everyone_10 : decode cX9_everyone 10 = .ok (.isub, 1) := by decide +kernel
theorem dX9_everyone_11 : decode cX9_everyone 11 = .ok (.ireturn, 1) := by decide +kernel
theorem zm_X9_everyone : ZMv "ClassOfMany" yX9_everyone cX9_everyone 1 (some .int) 0 := ⟨kw_4_9, kw_4_8, kp_21, kw_1_1, by decide +kernel, by decide⟩
def zf_X9_everyone (M : ZMem) : Option (Int32) :=
  zdy M 0 0 (7, 17) (fun o22 => some (((1 : Int32) <<< ((M o22 0) &&& 31)) - (1 : Int32)))
set_option maxHeartbeats 4000000 in
set_option maxRecDepth 100000 in
theorem zc_X9_everyone {l : Launch} {D : va_G} {ad : Nat → Nat} {cA : Nat → ClassId} {M : ZMem} {r : Int32} (hf : zf_X9_everyone M = some r) : ZCt l D ad cA yX9_everyone cX9_everyone 1 (some .int) 1 [.ref (ad 0)] M (some (.int r)) M := by
  refine zct (by decide +kernel) (Nat.le_of_ble_eq_true rfl) (lv := [(0, .ref (ad 0))]) rfl (fun E hl hD had hcA hN hC hR => ?_)
  subst hl; subst hD; subst had; subst hcA
  unfold zf_X9_everyone at hf
  refine zw_iconst hC (v := (1 : Int32)) dX9_everyone_0 (by decide) ?_
  refine zw_aload_n hC dX9_everyone_1 rfl 0 rfl ?_
  refine zw_getd hC hf zF_ClassOfMany_told zk_0 dX9_everyone_2 kw_2_168 (fun o22 ho22 hf => ?_)
  refine zw_geti hC zF_Told_members ho22 dX9_everyone_5 kw_1_38 ?_
  refine zw_ishl hC dX9_everyone_8 ?_
  refine zw_iconst hC (v := (1 : Int32)) dX9_everyone_9 (by decide) ?_
  refine zw_isub hC dX9_everyone_10 ?_
  have h1 := Option.some.inj hf
  subst h1
  exact zw_iret hC hR dX9_everyone_11
/-! ClassOfMany.claimsOf(I)I -/
theorem dX9_claimsOf_0 : decode cX9_claimsOf 0 = .ok (.iconst 0, 1) := by decide +kernel
theorem dX9_claimsOf_1 : decode cX9_claimsOf 1 = .ok (.istore_n 2, 1) := by decide +kernel
theorem dX9_claimsOf_2 : decode cX9_claimsOf 2 = .ok (.iconst 0, 1) := by decide +kernel
theorem dX9_claimsOf_3 : decode cX9_claimsOf 3 = .ok (.istore_n 3, 1) := by decide +kernel
theorem dX9_claimsOf_4 : decode cX9_claimsOf 4 = .ok (.iload_n 3, 1) := by decide +kernel
theorem dX9_claimsOf_5 : decode cX9_claimsOf 5 = .ok (.aload_n 0, 1) := by decide +kernel
theorem dX9_claimsOf_6 : decode cX9_claimsOf 6 = .ok (.getfield 12, 3) := by decide +kernel
theorem dX9_claimsOf_9 : decode cX9_claimsOf 9 = .ok (.getfield 92, 3) := by decide +kernel
theorem dX9_claimsOf_12 : decode cX9_claimsOf 12 = .ok (.if_icmp .ge 32, 3) := by decide +kernel
theorem dX9_claimsOf_15 : decode cX9_claimsOf 15 = .ok (.iload_n 1, 1) := by decide +kernel
theorem dX9_claimsOf_16 : decode cX9_claimsOf 16 = .ok (.iload_n 3, 1) := by decide +kernel
theorem dX9_claimsOf_17 : decode cX9_claimsOf 17 = .ok (.invokestatic 137, 3) := by decide +kernel
theorem dX9_claimsOf_20 : decode cX9_claimsOf 20 = .ok (.ifCond .eq 18, 3) := by decide +kernel
theorem dX9_claimsOf_23 : decode cX9_claimsOf 23 = .ok (.iload_n 2, 1) := by decide +kernel
theorem dX9_claimsOf_24 : decode cX9_claimsOf 24 = .ok (.aload_n 0, 1) := by decide +kernel
theorem dX9_claimsOf_25 : decode cX9_claimsOf 25 = .ok (.getfield 19, 3) := by decide +kernel
theorem dX9_claimsOf_28 : decode cX9_claimsOf 28 = .ok (.aload_n 0, 1) := by decide +kernel
theorem dX9_claimsOf_29 : decode cX9_claimsOf 29 = .ok (.getfield 12, 3) := by decide +kernel
theorem dX9_claimsOf_32 : decode cX9_claimsOf 32 = .ok (.iload_n 3, 1) := by decide +kernel
theorem dX9_claimsOf_33 : decode cX9_claimsOf 33 = .ok (.invokevirtual 212, 3) := by decide +kernel
theorem dX9_claimsOf_36 : decode cX9_claimsOf 36 = .ok (.iadd, 1) := by decide +kernel
theorem dX9_claimsOf_37 : decode cX9_claimsOf 37 = .ok (.istore_n 2, 1) := by decide +kernel
theorem dX9_claimsOf_38 : decode cX9_claimsOf 38 = .ok (.iinc 3 1, 3) := by decide +kernel
theorem dX9_claimsOf_41 : decode cX9_claimsOf 41 = .ok (.goto (-37), 3) := by decide +kernel
theorem dX9_claimsOf_44 : decode cX9_claimsOf 44 = .ok (.iload_n 2, 1) := by decide +kernel
theorem dX9_claimsOf_45 : decode cX9_claimsOf 45 = .ok (.ireturn, 1) := by decide +kernel
theorem zm_X9_claimsOf : ZMv "ClassOfMany" yX9_claimsOf cX9_claimsOf 4 (some .int) 1 := ⟨kw_4_13, kw_4_12, kp_22, kw_1_1, by decide +kernel, by decide⟩
def zf_X9_claimsOf_j38 (R4 : Int32 → Int32 → Option (Int32)) (v26 : Int32) (v30 : Int32) : Option (Int32) :=
  (R4 v30 (v26 + (1 : Int32)))
def zf_X9_claimsOf_L4 (M : ZMem) (a1 : Int32) (K44 : Int32 → Option (Int32)) : Nat → Int32 → Int32 → Option (Int32)
  | 0, _, _ => none
  | n4 + 1, v25, v26 =>
  zdy M 0 0 (7, 17) (fun o28 => (if (M o28 0) ≤ v26 then (K44 v25) else zb1 (zf_X9_has a1 v26) (fun v29 => (if v29 = 0 then (zf_X9_claimsOf_j38 (fun x0 x1 => zf_X9_claimsOf_L4 M a1 K44 n4 x0 x1) v26 v25) else zdy M 0 0 (7, 17) (fun o31 => zb1 (zf_X7_claimOf 12 o31 v26 M) (fun v32 => (zf_X9_claimsOf_j38 (fun x0 x1 => zf_X9_claimsOf_L4 M a1 K44 n4 x0 x1) v26 (v25 + v32))))))))
def zf_X9_claimsOf (n : Nat) (a1 : Int32) (M : ZMem) : Option (Int32) :=
  (zf_X9_claimsOf_L4 M a1 (fun v33 => some v33) n (0 : Int32) (0 : Int32))
set_option maxHeartbeats 4000000 in
set_option maxRecDepth 100000 in
theorem zc_X9_claimsOf {l : Launch} {D : va_G} {ad : Nat → Nat} {cA : Nat → ClassId} {n : Nat} {a1 : Int32} {M : ZMem} {r : Int32} (hf : zf_X9_claimsOf n a1 M = some r) : ZCt l D ad cA yX9_claimsOf cX9_claimsOf 4 (some .int) 2 [.ref (ad 0), .int a1] M (some (.int r)) M := by
  refine zct (by decide +kernel) (Nat.le_of_ble_eq_true rfl) (lv := [(0, .ref (ad 0)), (1, .int a1)]) rfl (fun E hl hD had hcA hN hC hR => ?_)
  subst hl; subst hD; subst had; subst hcA
  unfold zf_X9_claimsOf at hf
  refine zw_iconst hC (v := (0 : Int32)) dX9_claimsOf_0 (by decide) ?_
  refine zw_istore_n hC (lv' := [(2, .int (0 : Int32)), (0, .ref (zad E 0)), (1, .int a1)]) dX9_claimsOf_1 rfl hN (by decide) rfl ?_
  refine zw_iconst hC (v := (0 : Int32)) dX9_claimsOf_2 (by decide) ?_
  refine zw_istore_n hC (lv' := [(3, .int (0 : Int32)), (2, .int (0 : Int32)), (0, .ref (zad E 0)), (1, .int a1)]) dX9_claimsOf_3 rfl hN (by decide) rfl ?_
  have hL4 : ∀ (K44 : Int32 → Option (Int32)), (∀ (v27 : Int32), K44 v27 = some r → ZW E 44 [(2, .int v27)] [] M) → ∀ (n4 : Nat), ∀ (v25 : Int32), ∀ (v26 : Int32), zf_X9_claimsOf_L4 M a1 K44 n4 v25 v26 = some r → ZW E 4 [(0, .ref (zad E 0)), (1, .int a1), (2, .int v25), (3, .int v26)] [] M := by
    intro K44 hK44
    intro n4
    induction n4 with
    | zero => intro v25 v26 hf; rw [zf_X9_claimsOf_L4] at hf; cases hf
    | succ n4 ih4 =>
      intro v25 v26 hf
      rw [zf_X9_claimsOf_L4] at hf
      refine zw_iload_n hC dX9_claimsOf_4 rfl 3 rfl ?_
      refine zw_aload_n hC dX9_claimsOf_5 rfl 0 rfl ?_
      refine zw_getd hC hf zF_ClassOfMany_told zk_0 dX9_claimsOf_6 kw_2_168 (fun o28 ho28 hf => ?_)
      refine zw_geti hC zF_Told_members ho28 dX9_claimsOf_9 kw_1_38 ?_
      refine zw_icmp_ge hC 44 hf dX9_claimsOf_12 (by decide) (fun hf => ?_) (fun hf => ?_)
      · exact zw_sub [2] rfl (hK44 v25 hf)
      · refine zw_iload_n hC dX9_claimsOf_15 rfl 1 rfl ?_
        refine zw_iload_n hC dX9_claimsOf_16 rfl 3 rfl ?_
        obtain ⟨v29, hc29, hf⟩ := zb1_some hf
        refine zw_cS hC [.int a1, .int v26] [] (st1 := [.int v29]) zm_X9_has (zc_X9_has hc29) kw_3_201 dX9_claimsOf_17 rfl (by decide) (Nat.le_of_ble_eq_true rfl) rfl rfl ?_
        have hj38 : ∀ (v30 : Int32), zf_X9_claimsOf_j38 (fun x0 x1 => zf_X9_claimsOf_L4 M a1 K44 n4 x0 x1) v26 v30 = some r → ZW E 38 [(0, .ref (zad E 0)), (1, .int a1), (2, .int v30), (3, .int v26)] [] M := by
          intro v30 hf
          unfold zf_X9_claimsOf_j38 at hf
          refine zw_iinc hC (v := (1 : Int32)) (lv' := [(3, .int (v26 + (1 : Int32))), (0, .ref (zad E 0)), (1, .int a1), (2, .int v30)]) dX9_claimsOf_38 3 rfl (by decide) hN (by decide) rfl ?_
          refine zw_goto hC 4 dX9_claimsOf_41 (by decide) ?_
          exact zw_sub [1, 2, 3, 0] rfl (ih4 v30 (v26 + (1 : Int32)) hf)
        refine zw_if_eq hC 38 hf dX9_claimsOf_20 (by decide) (fun hf => ?_) (fun hf => ?_)
        · exact hj38 v25 hf
        · refine zw_iload_n hC dX9_claimsOf_23 rfl 2 rfl ?_
          refine zw_aload_n hC dX9_claimsOf_24 rfl 0 rfl ?_
          refine zw_getr (k' := 12) hC zF_ClassOfMany_now zk_0 rfl dX9_claimsOf_25 kw_2_169 ?_
          refine zw_aload_n hC dX9_claimsOf_28 rfl 0 rfl ?_
          refine zw_getd hC hf zF_ClassOfMany_told zk_0 dX9_claimsOf_29 kw_2_168 (fun o31 ho31 hf => ?_)
          refine zw_iload_n hC dX9_claimsOf_32 rfl 3 rfl ?_
          obtain ⟨v32, hc32, hf⟩ := zb1_some hf
          refine zw_cV hC [.ref (zad E o31), .int v26] [.int v25] (st1 := [.int v32, .int v25]) zm_X7_claimOf (zc_X7_claimOf zk_12 ho31 hc32) zk_12 rfl kw_4_14 dX9_claimsOf_33 rfl (by decide) (Nat.le_of_ble_eq_true rfl) rfl rfl ?_
          refine zw_iadd hC dX9_claimsOf_36 ?_
          refine zw_istore_n hC (lv' := [(2, .int (v25 + v32)), (0, .ref (zad E 0)), (1, .int a1), (3, .int v26)]) dX9_claimsOf_37 rfl hN (by decide) rfl ?_
          exact zw_sub [1, 2, 0, 3] rfl (hj38 (v25 + v32) hf)
  refine zw_sub [2, 3, 1, 0] rfl (hL4 _ ?_ n (0 : Int32) (0 : Int32) hf)
  · intro v33 hf
    refine zw_iload_n hC dX9_claimsOf_44 rfl 0 rfl ?_
    have h1 := Option.some.inj hf
    subst h1
    exact zw_iret hC hR dX9_claimsOf_45
/-! ClassOfMany.period(II)I -/
theorem dX9_period_0 : decode cX9_period 0 = .ok (.iload_n 1, 1) := by decide +kernel
theorem dX9_period_1 : decode cX9_period 1 = .ok (.ifCond .lt 14, 3) := by decide +kernel
theorem dX9_period_4 : decode cX9_period 4 = .ok (.iload_n 2, 1) := by decide +kernel
theorem dX9_period_5 : decode cX9_period 5 = .ok (.iload_n 1, 1) := by decide +kernel
theorem dX9_period_6 : decode cX9_period 6 = .ok (.if_icmp .lt 9, 3) := by decide +kernel
theorem dX9_period_9 : decode cX9_period 9 = .ok (.iload_n 2, 1) := by decide +kernel
theorem dX9_period_10 : decode cX9_period 10 = .ok (.bipush 99, 2) := by decide +kernel
theorem dX9_period_12 : decode cX9_period 12 = .ok (.if_icmp .le 5, 3) := by decide +kernel
theorem dX9_period_15 : decode cX9_period 15 = .ok (.iconst (-1), 1) := by decide +kernel
theorem dX9_period_16 : decode cX9_period 16 = .ok (.ireturn, 1) := by decide +kernel
theorem dX9_period_17 : decode cX9_period 17 = .ok (.iload_n 1, 1) := by decide +kernel
theorem dX9_period_18 : decode cX9_period 18 = .ok (.aload_n 0, 1) := by decide +kernel
theorem dX9_period_19 : decode cX9_period 19 = .ok (.getfield 19, 3) := by decide +kernel
theorem dX9_period_22 : decode cX9_period 22 = .ok (.getfield 171, 3) := by decide +kernel
theorem dX9_period_25 : decode cX9_period 25 = .ok (.if_icmp .ne 16, 3) := by decide +kernel
theorem dX9_period_28 : decode cX9_period 28 = .ok (.iload_n 2, 1) := by decide +kernel
theorem dX9_period_29 : decode cX9_period 29 = .ok (.aload_n 0, 1) := by decide +kernel
theorem dX9_period_30 : decode cX9_period 30 = .ok (.getfield 19, 3) := by decide +kernel
theorem dX9_period_33 : decode cX9_period 33 = .ok (.getfield 174, 3) := by decide +kernel
theorem dX9_period_36 : decode cX9_period 36 = .ok (.if_icmp .ne 5, 3) := by decide +kernel
theorem dX9_period_39 : decode cX9_period 39 = .ok (.iconst (-1), 1) := by decide +kernel
theorem dX9_period_40 : decode cX9_period 40 = .ok (.ireturn, 1) := by decide +kernel
theorem dX9_period_41 : decode cX9_period 41 = .ok (.aload_n 0, 1) := by decide +kernel
theorem dX9_period_42 : decode cX9_period 42 = .ok (.invokevirtual 101, 3) := by decide +kernel
theorem dX9_period_45 : decode cX9_period 45 = .ok (.aload_n 0, 1) := by decide +kernel
theorem dX9_period_46 : decode cX9_period 46 = .ok (.getfield 19, 3) := by decide +kernel
theorem dX9_period_49 : decode cX9_period 49 = .ok (.iload_n 1, 1) := by decide +kernel
theorem dX9_period_50 : decode cX9_period 50 = .ok (.putfield 171, 3) := by decide +kernel
theorem dX9_period_53 : decode cX9_period 53 = .ok (.aload_n 0, 1) := by decide +kernel
theorem dX9_period_54 : decode cX9_period 54 = .ok (.getfield 19, 3) := by decide +kernel
theorem dX9_period_57 : decode cX9_period 57 = .ok (.iload_n 2, 1) := by decide +kernel
theorem dX9_period_58 : decode cX9_period 58 = .ok (.putfield 174, 3) := by decide +kernel
theorem dX9_period_61 : decode cX9_period 61 = .ok (.aload_n 0, 1) := by decide +kernel
theorem dX9_period_62 : decode cX9_period 62 = .ok (.aload_n 0, 1) := by decide +kernel
theorem dX9_period_63 : decode cX9_period 63 = .ok (.invokevirtual 177, 3) := by decide +kernel
theorem dX9_period_66 : decode cX9_period 66 = .ok (.invokevirtual 180, 3) := by decide +kernel
theorem dX9_period_69 : decode cX9_period 69 = .ok (.ireturn, 1) := by decide +kernel
theorem zm_X9_period : ZMv "ClassOfMany" yX9_period cX9_period 3 (some .int) 2 := ⟨kw_4_5, kw_4_3, kw_4_4, kw_1_1, by decide +kernel, by decide⟩
def zf_X9_period_j15 (M : ZMem) : Option (Int32 × ZMem) :=
  some ((-1 : Int32), M)
def zf_X9_period_j41 (M : ZMem) (a1 : Int32) (a2 : Int32) (n : Nat) : Option (Int32 × ZMem) :=
  zb1 (zf_X9_remember M) (fun M26 => zput M26 12 9 a1 (fun M27 => zput M27 12 10 a2 (fun M28 => zb1 (zf_X9_everyone M28) (fun v29 => zb1 (zf_X9_claimsOf n v29 M28) (fun v30 => some (v30, M28))))))
def zf_X9_period (n : Nat) (a1 : Int32) (a2 : Int32) (M : ZMem) : Option (Int32 × ZMem) :=
  (if a1 < 0 then (zf_X9_period_j15 M) else (if a2 < a1 then (zf_X9_period_j15 M) else (if a2 ≤ (99 : Int32) then (if a1 = (M 12 9) then (if a2 = (M 12 10) then some ((-1 : Int32), M) else (zf_X9_period_j41 M a1 a2 n)) else (zf_X9_period_j41 M a1 a2 n)) else (zf_X9_period_j15 M))))
set_option maxHeartbeats 4000000 in
set_option maxRecDepth 100000 in
theorem zc_X9_period {l : Launch} {D : va_G} {ad : Nat → Nat} {cA : Nat → ClassId} {n : Nat} {a1 : Int32} {a2 : Int32} {M : ZMem} {r : Int32} {M' : ZMem} (hf : zf_X9_period n a1 a2 M = some (r, M')) : ZCt l D ad cA yX9_period cX9_period 3 (some .int) 4 [.ref (ad 0), .int a1, .int a2] M (some (.int r)) M' := by
  refine zct (by decide +kernel) (Nat.le_of_ble_eq_true rfl) (lv := [(0, .ref (ad 0)), (1, .int a1), (2, .int a2)]) rfl (fun E hl hD had hcA hN hC hR => ?_)
  subst hl; subst hD; subst had; subst hcA
  unfold zf_X9_period at hf
  refine zw_iload_n hC dX9_period_0 rfl 1 rfl ?_
  have hj15 : zf_X9_period_j15 M = some (r, M') → ZW E 15 [] [] M := by
    intro  hf
    unfold zf_X9_period_j15 at hf
    refine zw_iconst hC (v := (-1 : Int32)) dX9_period_15 (by decide) ?_
    obtain ⟨h1, h2⟩ := Prod.mk.inj (Option.some.inj hf)
    subst h1; subst h2
    exact zw_iret hC hR dX9_period_16
  refine zw_if_lt hC 15 hf dX9_period_1 (by decide) (fun hf => ?_) (fun hf => ?_)
  · exact zw_sub [] rfl (hj15 hf)
  · refine zw_iload_n hC dX9_period_4 rfl 2 rfl ?_
    refine zw_iload_n hC dX9_period_5 rfl 1 rfl ?_
    refine zw_icmp_lt hC 15 hf dX9_period_6 (by decide) (fun hf => ?_) (fun hf => ?_)
    · exact zw_sub [] rfl (hj15 hf)
    · refine zw_iload_n hC dX9_period_9 rfl 2 rfl ?_
      refine zw_bipush hC (v := (99 : Int32)) dX9_period_10 (by decide) ?_
      refine zw_icmp_le hC 17 hf dX9_period_12 (by decide) (fun hf => ?_) (fun hf => ?_)
      · refine zw_iload_n hC dX9_period_17 rfl 1 rfl ?_
        refine zw_aload_n hC dX9_period_18 rfl 0 rfl ?_
        refine zw_getr (k' := 12) hC zF_ClassOfMany_now zk_0 rfl dX9_period_19 kw_2_169 ?_
        refine zw_geti hC zF_Standing_periodFrom zk_12 dX9_period_22 kw_1_164 ?_
        have hj41 : zf_X9_period_j41 M a1 a2 n = some (r, M') → ZW E 41 [(0, .ref (zad E 0)), (1, .int a1), (2, .int a2)] [] M := by
          intro  hf
          unfold zf_X9_period_j41 at hf
          refine zw_aload_n hC dX9_period_41 rfl 0 rfl ?_
          obtain ⟨M26, hcM26, hf⟩ := zb1_some hf
          refine zw_cV hC [] [] (st1 := []) zm_X9_remember (zc_X9_remember hcM26) zk_0 rfl kw_3_153 dX9_period_42 rfl (by decide) (Nat.le_of_ble_eq_true rfl) rfl rfl ?_
          refine zw_aload_n hC dX9_period_45 rfl 0 rfl ?_
          refine zw_getr (k' := 12) hC zF_ClassOfMany_now zk_0 rfl dX9_period_46 kw_2_169 ?_
          refine zw_iload_n hC dX9_period_49 rfl 1 rfl ?_
          refine zw_puti hC hf zF_Standing_periodFrom zk_12 dX9_period_50 kw_1_164 (fun M27 hf => ?_)
          refine zw_aload_n hC dX9_period_53 rfl 0 rfl ?_
          refine zw_getr (k' := 12) hC zF_ClassOfMany_now zk_0 rfl dX9_period_54 kw_2_169 ?_
          refine zw_iload_n hC dX9_period_57 rfl 2 rfl ?_
          refine zw_puti hC hf zF_Standing_periodTo zk_12 dX9_period_58 kw_1_167 (fun M28 hf => ?_)
          refine zw_aload_n hC dX9_period_61 rfl 0 rfl ?_
          refine zw_aload_n hC dX9_period_62 rfl 0 rfl ?_
          obtain ⟨v29, hc29, hf⟩ := zb1_some hf
          refine zw_cV hC [] [.ref (zad E 0)] (st1 := [.int v29, .ref (zad E 0)]) zm_X9_everyone (zc_X9_everyone hc29) zk_0 rfl kw_4_6 dX9_period_63 rfl (by decide) (Nat.le_of_ble_eq_true rfl) rfl rfl ?_
          obtain ⟨v30, hc30, hf⟩ := zb1_some hf
          refine zw_cV hC [.int v29] [] (st1 := [.int v30]) zm_X9_claimsOf (zc_X9_claimsOf hc30) zk_0 rfl kw_4_10 dX9_period_66 rfl (by decide) (Nat.le_of_ble_eq_true rfl) rfl rfl ?_
          obtain ⟨h1, h2⟩ := Prod.mk.inj (Option.some.inj hf)
          subst h1; subst h2
          exact zw_iret hC hR dX9_period_69
        refine zw_icmp_ne hC 41 hf dX9_period_25 (by decide) (fun hf => ?_) (fun hf => ?_)
        · exact hj41 hf
        · refine zw_iload_n hC dX9_period_28 rfl 2 rfl ?_
          refine zw_aload_n hC dX9_period_29 rfl 0 rfl ?_
          refine zw_getr (k' := 12) hC zF_ClassOfMany_now zk_0 rfl dX9_period_30 kw_2_169 ?_
          refine zw_geti hC zF_Standing_periodTo zk_12 dX9_period_33 kw_1_167 ?_
          refine zw_icmp_ne hC 41 hf dX9_period_36 (by decide) (fun hf => ?_) (fun hf => ?_)
          · exact hj41 hf
          · refine zw_iconst hC (v := (-1 : Int32)) dX9_period_39 (by decide) ?_
            obtain ⟨h1, h2⟩ := Prod.mk.inj (Option.some.inj hf)
            subst h1; subst h2
            exact zw_iret hC hR dX9_period_40
      · exact zw_sub [] rfl (hj15 hf)
/-! ClassOfMany.arePair(II)Z -/
theorem dX9_arePair_0 : decode cX9_arePair 0 = .ok (.aload_n 0, 1) := by decide +kernel
theorem dX9_arePair_1 : decode cX9_arePair 1 = .ok (.iload_n 1, 1) := by decide +kernel
theorem dX9_arePair_2 : decode cX9_arePair 2 = .ok (.invokevirtual 130, 3) := by decide +kernel
theorem dX9_arePair_5 : decode cX9_arePair 5 = .ok (.ifCond .eq 20, 3) := by decide +kernel
theorem dX9_arePair_8 : decode cX9_arePair 8 = .ok (.aload_n 0, 1) := by decide +kernel
theorem dX9_arePair_9 : decode cX9_arePair 9 = .ok (.iload_n 2, 1) := by decide +kernel
theorem dX9_arePair_10 : decode cX9_arePair 10 = .ok (.invokevirtual 130, 3) := by decide +kernel
theorem dX9_arePair_13 : decode cX9_arePair 13 = .ok (.ifCond .eq 12, 3) := by decide +kernel
theorem dX9_arePair_16 : decode cX9_arePair 16 = .ok (.iload_n 1, 1) := by decide +kernel
theorem dX9_arePair_17 : decode cX9_arePair 17 = .ok (.iload_n 2, 1) := by decide +kernel
theorem dX9_arePair_18 : decode cX9_arePair 18 = .ok (.if_icmp .eq 7, 3) := by decide +kernel
theorem dX9_arePair_21 : decode cX9_arePair 21 = .ok (.iconst 1, 1) := by decide +kernel
theorem dX9_arePair_22 : decode cX9_arePair 22 = .ok (.goto 4, 3) := by decide +kernel
theorem dX9_arePair_25 : decode cX9_arePair 25 = .ok (.iconst 0, 1) := by decide +kernel
theorem dX9_arePair_26 : decode cX9_arePair 26 = .ok (.ireturn, 1) := by decide +kernel
theorem zm_X9_arePair : ZMv "ClassOfMany" yX9_arePair cX9_arePair 3 (some .boolean) 2 := ⟨kw_4_29, kw_4_28, kp_23, kw_1_1, by decide +kernel, by decide⟩
def zf_X9_arePair_j26 (v24 : Int32) : Option (Int32) :=
  zbz v24 (some v24)
def zf_X9_arePair_j25 : Option (Int32) :=
  (zf_X9_arePair_j26 (0 : Int32))
def zf_X9_arePair (a1 : Int32) (a2 : Int32) (M : ZMem) : Option (Int32) :=
  zb1 (zf_X9_isMember a1 M) (fun v23 => (if v23 = 0 then (zf_X9_arePair_j25) else zb1 (zf_X9_isMember a2 M) (fun v25 => (if v25 = 0 then (zf_X9_arePair_j25) else (if a1 = a2 then (zf_X9_arePair_j25) else (zf_X9_arePair_j26 (1 : Int32)))))))
set_option maxHeartbeats 4000000 in
set_option maxRecDepth 100000 in
theorem zc_X9_arePair {l : Launch} {D : va_G} {ad : Nat → Nat} {cA : Nat → ClassId} {a1 : Int32} {a2 : Int32} {M : ZMem} {r : Int32} (hf : zf_X9_arePair a1 a2 M = some r) : ZCt l D ad cA yX9_arePair cX9_arePair 3 (some .boolean) 2 [.ref (ad 0), .int a1, .int a2] M (some (.int r)) M := by
  refine zct (by decide +kernel) (Nat.le_of_ble_eq_true rfl) (lv := [(0, .ref (ad 0)), (1, .int a1), (2, .int a2)]) rfl (fun E hl hD had hcA hN hC hR => ?_)
  subst hl; subst hD; subst had; subst hcA
  unfold zf_X9_arePair at hf
  refine zw_aload_n hC dX9_arePair_0 rfl 0 rfl ?_
  refine zw_iload_n hC dX9_arePair_1 rfl 1 rfl ?_
  obtain ⟨v23, hc23, hf⟩ := zb1_some hf
  refine zw_cV hC [.int a1] [] (st1 := [.int v23]) zm_X9_isMember (zc_X9_isMember hc23) zk_0 rfl kw_3_197 dX9_arePair_2 rfl (by decide) (Nat.le_of_ble_eq_true rfl) rfl rfl ?_
  have hj26 : ∀ (v24 : Int32), zf_X9_arePair_j26 v24 = some r → ZW E 26 [] [.int v24] M := by
    intro v24 hf
    unfold zf_X9_arePair_j26 at hf
    obtain ⟨hz, hf⟩ := zbz_some hf
    have h1 := Option.some.inj hf
    subst h1
    exact zw_zret hC hR hz dX9_arePair_26
  have hj25 : zf_X9_arePair_j25 = some r → ZW E 25 [] [] M := by
    intro  hf
    unfold zf_X9_arePair_j25 at hf
    refine zw_iconst hC (v := (0 : Int32)) dX9_arePair_25 (by decide) ?_
    exact hj26 (0 : Int32) hf
  refine zw_if_eq hC 25 hf dX9_arePair_5 (by decide) (fun hf => ?_) (fun hf => ?_)
  · exact zw_sub [] rfl (hj25 hf)
  · refine zw_aload_n hC dX9_arePair_8 rfl 0 rfl ?_
    refine zw_iload_n hC dX9_arePair_9 rfl 2 rfl ?_
    obtain ⟨v25, hc25, hf⟩ := zb1_some hf
    refine zw_cV hC [.int a2] [] (st1 := [.int v25]) zm_X9_isMember (zc_X9_isMember hc25) zk_0 rfl kw_3_197 dX9_arePair_10 rfl (by decide) (Nat.le_of_ble_eq_true rfl) rfl rfl ?_
    refine zw_if_eq hC 25 hf dX9_arePair_13 (by decide) (fun hf => ?_) (fun hf => ?_)
    · exact zw_sub [] rfl (hj25 hf)
    · refine zw_iload_n hC dX9_arePair_16 rfl 1 rfl ?_
      refine zw_iload_n hC dX9_arePair_17 rfl 2 rfl ?_
      refine zw_icmp_eq hC 25 hf dX9_arePair_18 (by decide) (fun hf => ?_) (fun hf => ?_)
      · exact zw_sub [] rfl (hj25 hf)
      · refine zw_iconst hC (v := (1 : Int32)) dX9_arePair_21 (by decide) ?_
        refine zw_goto hC 26 dX9_arePair_22 (by decide) ?_
        exact zw_sub [] rfl (hj26 (1 : Int32) hf)
/-! ClassOfMany.quarrel(II)I -/
theorem dX9_quarrel_0 : decode cX9_quarrel 0 = .ok (.aload_n 0, 1) := by decide +kernel
theorem dX9_quarrel_1 : decode cX9_quarrel 1 = .ok (.iload_n 1, 1) := by decide +kernel
theorem dX9_quarrel_2 : decode cX9_quarrel 2 = .ok (.iload_n 2, 1) := by decide +kernel
theorem dX9_quarrel_3 : decode cX9_quarrel 3 = .ok (.invokevirtual 183, 3) := by decide +kernel
theorem dX9_quarrel_6 : decode cX9_quarrel 6 = .ok (.ifCond .ne 5, 3) := by decide +kernel
theorem dX9_quarrel_9 : decode cX9_quarrel 9 = .ok (.iconst (-1), 1) := by decide +kernel
theorem dX9_quarrel_10 : decode cX9_quarrel 10 = .ok (.ireturn, 1) := by decide +kernel
theorem dX9_quarrel_11 : decode cX9_quarrel 11 = .ok (.aload_n 0, 1) := by decide +kernel
theorem dX9_quarrel_12 : decode cX9_quarrel 12 = .ok (.invokevirtual 101, 3) := by decide +kernel
theorem dX9_quarrel_15 : decode cX9_quarrel 15 = .ok (.aload_n 0, 1) := by decide +kernel
theorem dX9_quarrel_16 : decode cX9_quarrel 16 = .ok (.getfield 19, 3) := by decide +kernel
theorem dX9_quarrel_19 : decode cX9_quarrel 19 = .ok (.iload_n 1, 1) := by decide +kernel
theorem dX9_quarrel_20 : decode cX9_quarrel 20 = .ok (.iload_n 2, 1) := by decide +kernel
theorem dX9_quarrel_21 : decode cX9_quarrel 21 = .ok (.invokevirtual 186, 3) := by decide +kernel
theorem dX9_quarrel_24 : decode cX9_quarrel 24 = .ok (.aload_n 0, 1) := by decide +kernel
theorem dX9_quarrel_25 : decode cX9_quarrel 25 = .ok (.getfield 19, 3) := by decide +kernel
theorem dX9_quarrel_28 : decode cX9_quarrel 28 = .ok (.getfield 190, 3) := by decide +kernel
theorem dX9_quarrel_31 : decode cX9_quarrel 31 = .ok (.iload_n 1, 1) := by decide +kernel
theorem dX9_quarrel_32 : decode cX9_quarrel 32 = .ok (.iaload, 1) := by decide +kernel
theorem dX9_quarrel_33 : decode cX9_quarrel 33 = .ok (.iload_n 2, 1) := by decide +kernel
theorem dX9_quarrel_34 : decode cX9_quarrel 34 = .ok (.invokestatic 137, 3) := by decide +kernel
theorem dX9_quarrel_37 : decode cX9_quarrel 37 = .ok (.ifCond .eq 7, 3) := by decide +kernel
theorem dX9_quarrel_40 : decode cX9_quarrel 40 = .ok (.iconst 1, 1) := by decide +kernel
theorem dX9_quarrel_41 : decode cX9_quarrel 41 = .ok (.goto 4, 3) := by decide +kernel
theorem dX9_quarrel_44 : decode cX9_quarrel 44 = .ok (.iconst 0, 1) := by decide +kernel
theorem dX9_quarrel_45 : decode cX9_quarrel 45 = .ok (.ireturn, 1) := by decide +kernel
theorem zm_X9_quarrel : ZMv "ClassOfMany" yX9_quarrel cX9_quarrel 3 (some .int) 2 := ⟨kw_4_25, kw_4_23, kw_4_24, kw_1_1, by decide +kernel, by decide⟩
def zf_X9_quarrel_j45 (M28 : ZMem) (v31 : Int32) : Option (Int32 × ZMem) :=
  some (v31, M28)
def zf_X9_quarrel (a1 : Int32) (a2 : Int32) (M : ZMem) : Option (Int32 × ZMem) :=
  zb1 (zf_X9_arePair a1 a2 M) (fun v26 => (if v26 = 0 then some ((-1 : Int32), M) else zb1 (zf_X9_remember M) (fun M27 => zb1 (zf_X7_toggleConflict 12 a1 a2 M27) (fun M28 => zrd M28 13 10 a1 (fun v29 => zb1 (zf_X9_has v29 a2) (fun v30 => (if v30 = 0 then (zf_X9_quarrel_j45 M28 (0 : Int32)) else (zf_X9_quarrel_j45 M28 (1 : Int32)))))))))
set_option maxHeartbeats 4000000 in
set_option maxRecDepth 100000 in
theorem zc_X9_quarrel {l : Launch} {D : va_G} {ad : Nat → Nat} {cA : Nat → ClassId} {a1 : Int32} {a2 : Int32} {M : ZMem} {r : Int32} {M' : ZMem} (hf : zf_X9_quarrel a1 a2 M = some (r, M')) : ZCt l D ad cA yX9_quarrel cX9_quarrel 3 (some .int) 4 [.ref (ad 0), .int a1, .int a2] M (some (.int r)) M' := by
  refine zct (by decide +kernel) (Nat.le_of_ble_eq_true rfl) (lv := [(0, .ref (ad 0)), (1, .int a1), (2, .int a2)]) rfl (fun E hl hD had hcA hN hC hR => ?_)
  subst hl; subst hD; subst had; subst hcA
  unfold zf_X9_quarrel at hf
  refine zw_aload_n hC dX9_quarrel_0 rfl 0 rfl ?_
  refine zw_iload_n hC dX9_quarrel_1 rfl 1 rfl ?_
  refine zw_iload_n hC dX9_quarrel_2 rfl 2 rfl ?_
  obtain ⟨v26, hc26, hf⟩ := zb1_some hf
  refine zw_cV hC [.int a1, .int a2] [] (st1 := [.int v26]) zm_X9_arePair (zc_X9_arePair hc26) zk_0 rfl kw_4_26 dX9_quarrel_3 rfl (by decide) (Nat.le_of_ble_eq_true rfl) rfl rfl ?_
  refine zw_if_ne hC 11 hf dX9_quarrel_6 (by decide) (fun hf => ?_) (fun hf => ?_)
  · refine zw_aload_n hC dX9_quarrel_11 rfl 0 rfl ?_
    obtain ⟨M27, hcM27, hf⟩ := zb1_some hf
    refine zw_cV hC [] [] (st1 := []) zm_X9_remember (zc_X9_remember hcM27) zk_0 rfl kw_3_153 dX9_quarrel_12 rfl (by decide) (Nat.le_of_ble_eq_true rfl) rfl rfl ?_
    refine zw_aload_n hC dX9_quarrel_15 rfl 0 rfl ?_
    refine zw_getr (k' := 12) hC zF_ClassOfMany_now zk_0 rfl dX9_quarrel_16 kw_2_169 ?_
    refine zw_iload_n hC dX9_quarrel_19 rfl 1 rfl ?_
    refine zw_iload_n hC dX9_quarrel_20 rfl 2 rfl ?_
    obtain ⟨M28, hcM28, hf⟩ := zb1_some hf
    refine zw_cV hC [.int a1, .int a2] [] (st1 := []) zm_X7_toggleConflict (zc_X7_toggleConflict zk_12 hcM28) zk_12 rfl kw_4_30 dX9_quarrel_21 rfl (by decide) (Nat.le_of_ble_eq_true rfl) rfl rfl ?_
    refine zw_aload_n hC dX9_quarrel_24 rfl 0 rfl ?_
    refine zw_getr (k' := 12) hC zF_ClassOfMany_now zk_0 rfl dX9_quarrel_25 kw_2_169 ?_
    refine zw_getr (k' := 13) hC zF_Standing_foes zk_12 rfl dX9_quarrel_28 kw_1_171 ?_
    refine zw_iload_n hC dX9_quarrel_31 rfl 1 rfl ?_
    refine zw_iald hC hf zk_13 dX9_quarrel_32 (fun v29 hf => ?_)
    refine zw_iload_n hC dX9_quarrel_33 rfl 2 rfl ?_
    obtain ⟨v30, hc30, hf⟩ := zb1_some hf
    refine zw_cS hC [.int v29, .int a2] [] (st1 := [.int v30]) zm_X9_has (zc_X9_has hc30) kw_3_201 dX9_quarrel_34 rfl (by decide) (Nat.le_of_ble_eq_true rfl) rfl rfl ?_
    have hj45 : ∀ (v31 : Int32), zf_X9_quarrel_j45 M28 v31 = some (r, M') → ZW E 45 [] [.int v31] M28 := by
      intro v31 hf
      unfold zf_X9_quarrel_j45 at hf
      obtain ⟨h1, h2⟩ := Prod.mk.inj (Option.some.inj hf)
      subst h1; subst h2
      exact zw_iret hC hR dX9_quarrel_45
    refine zw_if_eq hC 44 hf dX9_quarrel_37 (by decide) (fun hf => ?_) (fun hf => ?_)
    · refine zw_iconst hC (v := (0 : Int32)) dX9_quarrel_44 (by decide) ?_
      exact zw_sub [] rfl (hj45 (0 : Int32) hf)
    · refine zw_iconst hC (v := (1 : Int32)) dX9_quarrel_40 (by decide) ?_
      refine zw_goto hC 45 dX9_quarrel_41 (by decide) ?_
      exact zw_sub [] rfl (hj45 (1 : Int32) hf)
  · refine zw_iconst hC (v := (-1 : Int32)) dX9_quarrel_9 (by decide) ?_
    obtain ⟨h1, h2⟩ := Prod.mk.inj (Option.some.inj hf)
    subst h1; subst h2
    exact zw_iret hC hR dX9_quarrel_10
/-! ClassOfMany.undo()I -/
theorem dX9_undo_0 : decode cX9_undo 0 = .ok (.aload_n 0, 1) := by decide +kernel
theorem dX9_undo_1 : decode cX9_undo 1 = .ok (.getfield 29, 3) := by decide +kernel
theorem dX9_undo_4 : decode cX9_undo 4 = .ok (.getfield 194, 3) := by decide +kernel
theorem dX9_undo_7 : decode cX9_undo 7 = .ok (.ifCond .ne 5, 3) := by decide +kernel
theorem dX9_undo_10 : decode cX9_undo 10 = .ok (.iconst (-1), 1) := by decide +kernel
theorem dX9_undo_11 : decode cX9_undo 11 = .ok (.ireturn, 1) := by decide +kernel
theorem dX9_undo_12 : decode cX9_undo 12 = .ok (.aload_n 0, 1) := by decide +kernel
theorem dX9_undo_13 : decode cX9_undo 13 = .ok (.getfield 29, 3) := by decide +kernel
theorem dX9_undo_16 : decode cX9_undo 16 = .ok (.aload_n 0, 1) := by decide +kernel
theorem dX9_undo_17 : decode cX9_undo 17 = .ok (.getfield 19, 3) := by decide +kernel
theorem dX9_undo_20 : decode cX9_undo 20 = .ok (.invokevirtual 197, 3) := by decide +kernel
theorem dX9_undo_23 : decode cX9_undo 23 = .ok (.aload_n 0, 1) := by decide +kernel
theorem dX9_undo_24 : decode cX9_undo 24 = .ok (.getfield 57, 3) := by decide +kernel
theorem dX9_undo_27 : decode cX9_undo 27 = .ok (.invokevirtual 91, 3) := by decide +kernel
theorem dX9_undo_30 : decode cX9_undo 30 = .ok (.aload_n 0, 1) := by decide +kernel
theorem dX9_undo_31 : decode cX9_undo 31 = .ok (.getfield 29, 3) := by decide +kernel
theorem dX9_undo_34 : decode cX9_undo 34 = .ok (.getfield 194, 3) := by decide +kernel
theorem dX9_undo_37 : decode cX9_undo 37 = .ok (.ireturn, 1) := by decide +kernel
theorem zm_X9_undo : ZMv "ClassOfMany" yX9_undo cX9_undo 1 (some .int) 0 := ⟨kw_4_34, kw_4_32, kw_4_33, kw_1_1, by decide +kernel, by decide⟩
def zf_X9_undo (M : ZMem) : Option (Int32 × ZMem) :=
  (if (M 16 2) = 0 then some ((-1 : Int32), M) else zb1 (zf_X0_restore 12 M) (fun M23 => zb1 (zf_X5_forget M23) (fun M24 => some ((M24 16 2), M24))))
set_option maxHeartbeats 4000000 in
set_option maxRecDepth 100000 in
theorem zc_X9_undo {l : Launch} {D : va_G} {ad : Nat → Nat} {cA : Nat → ClassId} {M : ZMem} {r : Int32} {M' : ZMem} (hf : zf_X9_undo M = some (r, M')) : ZCt l D ad cA yX9_undo cX9_undo 1 (some .int) 3 [.ref (ad 0)] M (some (.int r)) M' := by
  refine zct (by decide +kernel) (Nat.le_of_ble_eq_true rfl) (lv := [(0, .ref (ad 0))]) rfl (fun E hl hD had hcA hN hC hR => ?_)
  subst hl; subst hD; subst had; subst hcA
  unfold zf_X9_undo at hf
  refine zw_aload_n hC dX9_undo_0 rfl 0 rfl ?_
  refine zw_getr (k' := 16) hC zF_ClassOfMany_journal zk_0 rfl dX9_undo_1 kw_2_171 ?_
  refine zw_geti hC zF_Journal_size zk_16 dX9_undo_4 kw_1_209 ?_
  refine zw_if_ne hC 12 hf dX9_undo_7 (by decide) (fun hf => ?_) (fun hf => ?_)
  · refine zw_aload_n hC dX9_undo_12 rfl 0 rfl ?_
    refine zw_getr (k' := 16) hC zF_ClassOfMany_journal zk_0 rfl dX9_undo_13 kw_2_171 ?_
    refine zw_aload_n hC dX9_undo_16 rfl 0 rfl ?_
    refine zw_getr (k' := 12) hC zF_ClassOfMany_now zk_0 rfl dX9_undo_17 kw_2_169 ?_
    obtain ⟨M23, hcM23, hf⟩ := zb1_some hf
    refine zw_cV hC [.ref (zad E 12)] [] (st1 := []) zm_X0_restore (zc_X0_restore zk_12 hcM23) zk_16 rfl kw_4_35 dX9_undo_20 rfl (by decide) (Nat.le_of_ble_eq_true rfl) rfl rfl ?_
    refine zw_aload_n hC dX9_undo_23 rfl 0 rfl ?_
    refine zw_getr (k' := 71) hC zF_ClassOfMany_resting zk_0 rfl dX9_undo_24 kw_2_175 ?_
    obtain ⟨M24, hcM24, hf⟩ := zb1_some hf
    refine zw_cV hC [] [] (st1 := []) zm_X5_forget (zc_X5_forget hcM24) zk_71 rfl kw_3_145 dX9_undo_27 rfl (by decide) (Nat.le_of_ble_eq_true rfl) rfl rfl ?_
    refine zw_aload_n hC dX9_undo_30 rfl 0 rfl ?_
    refine zw_getr (k' := 16) hC zF_ClassOfMany_journal zk_0 rfl dX9_undo_31 kw_2_171 ?_
    refine zw_geti hC zF_Journal_size zk_16 dX9_undo_34 kw_1_209 ?_
    obtain ⟨h1, h2⟩ := Prod.mk.inj (Option.some.inj hf)
    subst h1; subst h2
    exact zw_iret hC hR dX9_undo_37
  · refine zw_iconst hC (v := (-1 : Int32)) dX9_undo_10 (by decide) ?_
    obtain ⟨h1, h2⟩ := Prod.mk.inj (Option.some.inj hf)
    subst h1; subst h2
    exact zw_iret hC hR dX9_undo_11
/-! ClassOfMany.bitOf(II)I -/
theorem dX9_bitOf_0 : decode cX9_bitOf 0 = .ok (.iload_n 0, 1) := by decide +kernel
theorem dX9_bitOf_1 : decode cX9_bitOf 1 = .ok (.iload_n 1, 1) := by decide +kernel
theorem dX9_bitOf_2 : decode cX9_bitOf 2 = .ok (.ishr, 1) := by decide +kernel
theorem dX9_bitOf_3 : decode cX9_bitOf 3 = .ok (.iconst 1, 1) := by decide +kernel
theorem dX9_bitOf_4 : decode cX9_bitOf 4 = .ok (.iand, 1) := by decide +kernel
theorem dX9_bitOf_5 : decode cX9_bitOf 5 = .ok (.ireturn, 1) := by decide +kernel
theorem zm_X9_bitOf : ZMs yX9_bitOf cX9_bitOf 2 (some .int) 2 := ⟨kw_4_45, kw_4_44, kw_1_1, by decide +kernel, by decide⟩
def zf_X9_bitOf (a0 : Int32) (a1 : Int32) : Option (Int32) :=
  some ((a0 >>> (a1 &&& 31)) &&& (1 : Int32))
set_option maxHeartbeats 4000000 in
set_option maxRecDepth 100000 in
theorem zc_X9_bitOf {l : Launch} {D : va_G} {ad : Nat → Nat} {cA : Nat → ClassId} {a0 : Int32} {a1 : Int32} {M : ZMem} {r : Int32} (hf : zf_X9_bitOf a0 a1 = some r) : ZCt l D ad cA yX9_bitOf cX9_bitOf 2 (some .int) 1 [.int a0, .int a1] M (some (.int r)) M := by
  refine zct (by decide +kernel) (Nat.le_of_ble_eq_true rfl) (lv := [(0, .int a0), (1, .int a1)]) rfl (fun E hl hD had hcA hN hC hR => ?_)
  subst hl; subst hD; subst had; subst hcA
  unfold zf_X9_bitOf at hf
  refine zw_iload_n hC dX9_bitOf_0 rfl 0 rfl ?_
  refine zw_iload_n hC dX9_bitOf_1 rfl 1 rfl ?_
  refine zw_ishr hC dX9_bitOf_2 ?_
  refine zw_iconst hC (v := (1 : Int32)) dX9_bitOf_3 (by decide) ?_
  refine zw_iand hC dX9_bitOf_4 ?_
  have h1 := Option.some.inj hf
  subst h1
  exact zw_iret hC hR dX9_bitOf_5
/-! ClassOfMany.member(II)I -/
theorem dX9_member_0 : decode cX9_member 0 = .ok (.aload_n 0, 1) := by decide +kernel
theorem dX9_member_1 : decode cX9_member 1 = .ok (.iload_n 1, 1) := by decide +kernel
theorem dX9_member_2 : decode cX9_member 2 = .ok (.invokevirtual 130, 3) := by decide +kernel
theorem dX9_member_5 : decode cX9_member 5 = .ok (.ifCond .ne 5, 3) := by decide +kernel
theorem dX9_member_8 : decode cX9_member 8 = .ok (.iconst (-1), 1) := by decide +kernel
theorem dX9_member_9 : decode cX9_member 9 = .ok (.ireturn, 1) := by decide +kernel
theorem dX9_member_10 : decode cX9_member 10 = .ok (.iload_n 2, 1) := by decide +kernel
theorem dX9_member_11 : decode cX9_member 11 = .ok (.tableswitch 158 0 9 #[53, 63, 73, 83, 93, 106, 118, 130, 142, 148], 53) := by decide +kernel
theorem dX9_member_64 : decode cX9_member 64 = .ok (.aload_n 0, 1) := by decide +kernel
theorem dX9_member_65 : decode cX9_member 65 = .ok (.getfield 12, 3) := by decide +kernel
theorem dX9_member_68 : decode cX9_member 68 = .ok (.getfield 200, 3) := by decide +kernel
theorem dX9_member_71 : decode cX9_member 71 = .ok (.iload_n 1, 1) := by decide +kernel
theorem dX9_member_72 : decode cX9_member 72 = .ok (.iaload, 1) := by decide +kernel
theorem dX9_member_73 : decode cX9_member 73 = .ok (.ireturn, 1) := by decide +kernel
theorem dX9_member_74 : decode cX9_member 74 = .ok (.aload_n 0, 1) := by decide +kernel
theorem dX9_member_75 : decode cX9_member 75 = .ok (.getfield 12, 3) := by decide +kernel
theorem dX9_member_78 : decode cX9_member 78 = .ok (.getfield 203, 3) := by decide +kernel
theorem dX9_member_81 : decode cX9_member 81 = .ok (.iload_n 1, 1) := by decide +kernel
theorem dX9_member_82 : decode cX9_member 82 = .ok (.iaload, 1) := by decide +kernel
theorem dX9_member_83 : decode cX9_member 83 = .ok (.ireturn, 1) := by decide +kernel
theorem dX9_member_84 : decode cX9_member 84 = .ok (.aload_n 0, 1) := by decide +kernel
theorem dX9_member_85 : decode cX9_member 85 = .ok (.getfield 12, 3) := by decide +kernel
theorem dX9_member_88 : decode cX9_member 88 = .ok (.getfield 206, 3) := by decide +kernel
theorem dX9_member_91 : decode cX9_member 91 = .ok (.iload_n 1, 1) := by decide +kernel
theorem dX9_member_92 : decode cX9_member 92 = .ok (.iaload, 1) := by decide +kernel
theorem dX9_member_93 : decode cX9_member 93 = .ok (.ireturn, 1) := by decide +kernel
theorem dX9_member_94 : decode cX9_member 94 = .ok (.aload_n 0, 1) := by decide +kernel
theorem dX9_member_95 : decode cX9_member 95 = .ok (.getfield 12, 3) := by decide +kernel
theorem dX9_member_98 : decode cX9_member 98 = .ok (.getfield 209, 3) := by decide +kernel
theorem dX9_member_101 : decode cX9_member 101 = .ok (.iload_n 1, 1) := by decide +kernel
theorem dX9_member_102 : decode cX9_member 102 = .ok (.iaload, 1) := by decide +kernel
theorem dX9_member_103 : decode cX9_member 103 = .ok (.ireturn, 1) := by decide +kernel
theorem dX9_member_104 : decode cX9_member 104 = .ok (.aload_n 0, 1) := by decide +kernel
theorem dX9_member_105 : decode cX9_member 105 = .ok (.getfield 19, 3) := by decide +kernel
theorem dX9_member_108 : decode cX9_member 108 = .ok (.aload_n 0, 1) := by decide +kernel
theorem dX9_member_109 : decode cX9_member 109 = .ok (.getfield 12, 3) := by decide +kernel
theorem dX9_member_112 : decode cX9_member 112 = .ok (.iload_n 1, 1) := by decide +kernel
theorem dX9_member_113 : decode cX9_member 113 = .ok (.invokevirtual 212, 3) := by decide +kernel
theorem dX9_member_116 : decode cX9_member 116 = .ok (.ireturn, 1) := by decide +kernel
theorem dX9_member_117 : decode cX9_member 117 = .ok (.aload_n 0, 1) := by decide +kernel
theorem dX9_member_118 : decode cX9_member 118 = .ok (.getfield 19, 3) := by decide +kernel
theorem dX9_member_121 : decode cX9_member 121 = .ok (.getfield 134, 3) := by decide +kernel
theorem dX9_member_124 : decode cX9_member 124 = .ok (.iload_n 1, 1) := by decide +kernel
theorem dX9_member_125 : decode cX9_member 125 = .ok (.invokestatic 215, 3) := by decide +kernel
theorem dX9_member_128 : decode cX9_member 128 = .ok (.ireturn, 1) := by decide +kernel
theorem dX9_member_129 : decode cX9_member 129 = .ok (.aload_n 0, 1) := by decide +kernel
theorem dX9_member_130 : decode cX9_member 130 = .ok (.getfield 19, 3) := by decide +kernel
theorem dX9_member_133 : decode cX9_member 133 = .ok (.getfield 153, 3) := by decide +kernel
theorem dX9_member_136 : decode cX9_member 136 = .ok (.iload_n 1, 1) := by decide +kernel
theorem dX9_member_137 : decode cX9_member 137 = .ok (.invokestatic 215, 3) := by decide +kernel
theorem dX9_member_140 : decode cX9_member 140 = .ok (.ireturn, 1) := by decide +kernel
theorem dX9_member_141 : decode cX9_member 141 = .ok (.aload_n 0, 1) := by decide +kernel
theorem dX9_member_142 : decode cX9_member 142 = .ok (.getfield 19, 3) := by decide +kernel
theorem dX9_member_145 : decode cX9_member 145 = .ok (.getfield 156, 3) := by decide +kernel
theorem dX9_member_148 : decode cX9_member 148 = .ok (.iload_n 1, 1) := by decide +kernel
theorem dX9_member_149 : decode cX9_member 149 = .ok (.invokestatic 215, 3) := by decide +kernel
theorem dX9_member_152 : decode cX9_member 152 = .ok (.ireturn, 1) := by decide +kernel
theorem dX9_member_153 : decode cX9_member 153 = .ok (.aload_n 0, 1) := by decide +kernel
theorem dX9_member_154 : decode cX9_member 154 = .ok (.iload_n 1, 1) := by decide +kernel
theorem dX9_member_155 : decode cX9_member 155 = .ok (.invokevirtual 219, 3) := by decide +kernel
theorem dX9_member_158 : decode cX9_member 158 = .ok (.ireturn, 1) := by decide +kernel
theorem dX9_member_159 : decode cX9_member 159 = .ok (.aload_n 0, 1) := by decide +kernel
theorem dX9_member_160 : decode cX9_member 160 = .ok (.getfield 19, 3) := by decide +kernel
theorem dX9_member_163 : decode cX9_member 163 = .ok (.getfield 190, 3) := by decide +kernel
theorem dX9_member_166 : decode cX9_member 166 = .ok (.iload_n 1, 1) := by decide +kernel
theorem dX9_member_167 : decode cX9_member 167 = .ok (.iaload, 1) := by decide +kernel
theorem dX9_member_168 : decode cX9_member 168 = .ok (.ireturn, 1) := by decide +kernel
theorem dX9_member_169 : decode cX9_member 169 = .ok (.iconst (-1), 1) := by decide +kernel
theorem dX9_member_170 : decode cX9_member 170 = .ok (.ireturn, 1) := by decide +kernel
theorem zm_X9_member : ZMv "ClassOfMany" yX9_member cX9_member 3 (some .int) 2 := ⟨kw_4_42, kw_4_40, kw_4_41, kw_1_1, by decide +kernel, by decide⟩
def zf_X9_member (n : Nat) (a1 : Int32) (a2 : Int32) (M : ZMem) : Option (Int32) :=
  zb1 (zf_X9_isMember a1 M) (fun v37 => (if v37 = 0 then some (-1 : Int32) else (if a2 = (0 : Int32) then zdy M 0 0 (7, 17) (fun o38 => zrd M (o38 + 1) 10 a1 (fun v39 => some v39)) else (if a2 = (1 : Int32) then zdy M 0 0 (7, 17) (fun o40 => zrd M (o40 + 2) 10 a1 (fun v41 => some v41)) else (if a2 = (2 : Int32) then zdy M 0 0 (7, 17) (fun o42 => zrd M (o42 + 3) 10 a1 (fun v43 => some v43)) else (if a2 = (3 : Int32) then zdy M 0 0 (7, 17) (fun o44 => zrd M (o44 + 4) 10 a1 (fun v45 => some v45)) else (if a2 = (4 : Int32) then zdy M 0 0 (7, 17) (fun o46 => zb1 (zf_X7_claimOf 12 o46 a1 M) (fun v47 => some v47)) else (if a2 = (5 : Int32) then zb1 (zf_X9_bitOf (M 12 4) a1) (fun v48 => some v48) else (if a2 = (6 : Int32) then zb1 (zf_X9_bitOf (M 12 5) a1) (fun v49 => some v49) else (if a2 = (7 : Int32) then zb1 (zf_X9_bitOf (M 12 6) a1) (fun v50 => some v50) else (if a2 = (8 : Int32) then zb1 (zf_X9_reachDay n a1 M) (fun v51 => some v51) else (if a2 = (9 : Int32) then zrd M 13 10 a1 (fun v52 => some v52) else some (-1 : Int32)))))))))))))
set_option maxHeartbeats 4000000 in
set_option maxRecDepth 100000 in
theorem zc_X9_member {l : Launch} {D : va_G} {ad : Nat → Nat} {cA : Nat → ClassId} {n : Nat} {a1 : Int32} {a2 : Int32} {M : ZMem} {r : Int32} (hf : zf_X9_member n a1 a2 M = some r) : ZCt l D ad cA yX9_member cX9_member 3 (some .int) 4 [.ref (ad 0), .int a1, .int a2] M (some (.int r)) M := by
  refine zct (by decide +kernel) (Nat.le_of_ble_eq_true rfl) (lv := [(0, .ref (ad 0)), (1, .int a1), (2, .int a2)]) rfl (fun E hl hD had hcA hN hC hR => ?_)
  subst hl; subst hD; subst had; subst hcA
  unfold zf_X9_member at hf
  refine zw_aload_n hC dX9_member_0 rfl 0 rfl ?_
  refine zw_iload_n hC dX9_member_1 rfl 1 rfl ?_
  obtain ⟨v37, hc37, hf⟩ := zb1_some hf
  refine zw_cV hC [.int a1] [] (st1 := [.int v37]) zm_X9_isMember (zc_X9_isMember hc37) zk_0 rfl kw_3_197 dX9_member_2 rfl (by decide) (Nat.le_of_ble_eq_true rfl) rfl rfl ?_
  refine zw_if_ne hC 10 hf dX9_member_5 (by decide) (fun hf => ?_) (fun hf => ?_)
  · refine zw_iload_n hC dX9_member_10 rfl 2 rfl ?_
    by_cases hx11_0 : a2 = (0 : Int32)
    · rw [if_pos hx11_0] at hf
      refine zw_tin hC hx11_0 (tgt := 64) dX9_member_11 (by decide) (by decide) rfl (by decide) ?_
      refine zw_aload_n hC dX9_member_64 rfl 0 rfl ?_
      refine zw_getd hC hf zF_ClassOfMany_told zk_0 dX9_member_65 kw_2_168 (fun o38 ho38 hf => ?_)
      refine zw_getr (k' := (o38 + 1)) hC zF_Told_from ho38 rfl dX9_member_68 kw_1_48 ?_
      refine zw_iload_n hC dX9_member_71 rfl 1 rfl ?_
      refine zw_iald hC hf (zko_7_1 ho38) dX9_member_72 (fun v39 hf => ?_)
      have h1 := Option.some.inj hf
      subst h1
      exact zw_iret hC hR dX9_member_73
    rw [if_neg hx11_0] at hf
    by_cases hx11_1 : a2 = (1 : Int32)
    · rw [if_pos hx11_1] at hf
      refine zw_tin hC hx11_1 (tgt := 74) dX9_member_11 (by decide) (by decide) rfl (by decide) ?_
      refine zw_aload_n hC dX9_member_74 rfl 0 rfl ?_
      refine zw_getd hC hf zF_ClassOfMany_told zk_0 dX9_member_75 kw_2_168 (fun o40 ho40 hf => ?_)
      refine zw_getr (k' := (o40 + 2)) hC zF_Told_to ho40 rfl dX9_member_78 kw_1_52 ?_
      refine zw_iload_n hC dX9_member_81 rfl 1 rfl ?_
      refine zw_iald hC hf (zko_7_2 ho40) dX9_member_82 (fun v41 hf => ?_)
      have h1 := Option.some.inj hf
      subst h1
      exact zw_iret hC hR dX9_member_83
    rw [if_neg hx11_1] at hf
    by_cases hx11_2 : a2 = (2 : Int32)
    · rw [if_pos hx11_2] at hf
      refine zw_tin hC hx11_2 (tgt := 84) dX9_member_11 (by decide) (by decide) rfl (by decide) ?_
      refine zw_aload_n hC dX9_member_84 rfl 0 rfl ?_
      refine zw_getd hC hf zF_ClassOfMany_told zk_0 dX9_member_85 kw_2_168 (fun o42 ho42 hf => ?_)
      refine zw_getr (k' := (o42 + 3)) hC zF_Told_rate ho42 rfl dX9_member_88 kw_1_56 ?_
      refine zw_iload_n hC dX9_member_91 rfl 1 rfl ?_
      refine zw_iald hC hf (zko_7_3 ho42) dX9_member_92 (fun v43 hf => ?_)
      have h1 := Option.some.inj hf
      subst h1
      exact zw_iret hC hR dX9_member_93
    rw [if_neg hx11_2] at hf
    by_cases hx11_3 : a2 = (3 : Int32)
    · rw [if_pos hx11_3] at hf
      refine zw_tin hC hx11_3 (tgt := 94) dX9_member_11 (by decide) (by decide) rfl (by decide) ?_
      refine zw_aload_n hC dX9_member_94 rfl 0 rfl ?_
      refine zw_getd hC hf zF_ClassOfMany_told zk_0 dX9_member_95 kw_2_168 (fun o44 ho44 hf => ?_)
      refine zw_getr (k' := (o44 + 4)) hC zF_Told_reach ho44 rfl dX9_member_98 kw_1_60 ?_
      refine zw_iload_n hC dX9_member_101 rfl 1 rfl ?_
      refine zw_iald hC hf (zko_7_4 ho44) dX9_member_102 (fun v45 hf => ?_)
      have h1 := Option.some.inj hf
      subst h1
      exact zw_iret hC hR dX9_member_103
    rw [if_neg hx11_3] at hf
    by_cases hx11_4 : a2 = (4 : Int32)
    · rw [if_pos hx11_4] at hf
      refine zw_tin hC hx11_4 (tgt := 104) dX9_member_11 (by decide) (by decide) rfl (by decide) ?_
      refine zw_aload_n hC dX9_member_104 rfl 0 rfl ?_
      refine zw_getr (k' := 12) hC zF_ClassOfMany_now zk_0 rfl dX9_member_105 kw_2_169 ?_
      refine zw_aload_n hC dX9_member_108 rfl 0 rfl ?_
      refine zw_getd hC hf zF_ClassOfMany_told zk_0 dX9_member_109 kw_2_168 (fun o46 ho46 hf => ?_)
      refine zw_iload_n hC dX9_member_112 rfl 1 rfl ?_
      obtain ⟨v47, hc47, hf⟩ := zb1_some hf
      refine zw_cV hC [.ref (zad E o46), .int a1] [] (st1 := [.int v47]) zm_X7_claimOf (zc_X7_claimOf zk_12 ho46 hc47) zk_12 rfl kw_4_14 dX9_member_113 rfl (by decide) (Nat.le_of_ble_eq_true rfl) rfl rfl ?_
      have h1 := Option.some.inj hf
      subst h1
      exact zw_iret hC hR dX9_member_116
    rw [if_neg hx11_4] at hf
    by_cases hx11_5 : a2 = (5 : Int32)
    · rw [if_pos hx11_5] at hf
      refine zw_tin hC hx11_5 (tgt := 117) dX9_member_11 (by decide) (by decide) rfl (by decide) ?_
      refine zw_aload_n hC dX9_member_117 rfl 0 rfl ?_
      refine zw_getr (k' := 12) hC zF_ClassOfMany_now zk_0 rfl dX9_member_118 kw_2_169 ?_
      refine zw_geti hC zF_Standing_out zk_12 dX9_member_121 kw_1_146 ?_
      refine zw_iload_n hC dX9_member_124 rfl 1 rfl ?_
      obtain ⟨v48, hc48, hf⟩ := zb1_some hf
      refine zw_cS hC [.int (M 12 4), .int a1] [] (st1 := [.int v48]) zm_X9_bitOf (zc_X9_bitOf hc48) kw_4_43 dX9_member_125 rfl (by decide) (Nat.le_of_ble_eq_true rfl) rfl rfl ?_
      have h1 := Option.some.inj hf
      subst h1
      exact zw_iret hC hR dX9_member_128
    rw [if_neg hx11_5] at hf
    by_cases hx11_6 : a2 = (6 : Int32)
    · rw [if_pos hx11_6] at hf
      refine zw_tin hC hx11_6 (tgt := 129) dX9_member_11 (by decide) (by decide) rfl (by decide) ?_
      refine zw_aload_n hC dX9_member_129 rfl 0 rfl ?_
      refine zw_getr (k' := 12) hC zF_ClassOfMany_now zk_0 rfl dX9_member_130 kw_2_169 ?_
      refine zw_geti hC zF_Standing_filed zk_12 dX9_member_133 kw_1_150 ?_
      refine zw_iload_n hC dX9_member_136 rfl 1 rfl ?_
      obtain ⟨v49, hc49, hf⟩ := zb1_some hf
      refine zw_cS hC [.int (M 12 5), .int a1] [] (st1 := [.int v49]) zm_X9_bitOf (zc_X9_bitOf hc49) kw_4_43 dX9_member_137 rfl (by decide) (Nat.le_of_ble_eq_true rfl) rfl rfl ?_
      have h1 := Option.some.inj hf
      subst h1
      exact zw_iret hC hR dX9_member_140
    rw [if_neg hx11_6] at hf
    by_cases hx11_7 : a2 = (7 : Int32)
    · rw [if_pos hx11_7] at hf
      refine zw_tin hC hx11_7 (tgt := 141) dX9_member_11 (by decide) (by decide) rfl (by decide) ?_
      refine zw_aload_n hC dX9_member_141 rfl 0 rfl ?_
      refine zw_getr (k' := 12) hC zF_ClassOfMany_now zk_0 rfl dX9_member_142 kw_2_169 ?_
      refine zw_geti hC zF_Standing_lazy zk_12 dX9_member_145 kw_1_154 ?_
      refine zw_iload_n hC dX9_member_148 rfl 1 rfl ?_
      obtain ⟨v50, hc50, hf⟩ := zb1_some hf
      refine zw_cS hC [.int (M 12 6), .int a1] [] (st1 := [.int v50]) zm_X9_bitOf (zc_X9_bitOf hc50) kw_4_43 dX9_member_149 rfl (by decide) (Nat.le_of_ble_eq_true rfl) rfl rfl ?_
      have h1 := Option.some.inj hf
      subst h1
      exact zw_iret hC hR dX9_member_152
    rw [if_neg hx11_7] at hf
    by_cases hx11_8 : a2 = (8 : Int32)
    · rw [if_pos hx11_8] at hf
      refine zw_tin hC hx11_8 (tgt := 153) dX9_member_11 (by decide) (by decide) rfl (by decide) ?_
      refine zw_aload_n hC dX9_member_153 rfl 0 rfl ?_
      refine zw_iload_n hC dX9_member_154 rfl 1 rfl ?_
      obtain ⟨v51, hc51, hf⟩ := zb1_some hf
      refine zw_cV hC [.int a1] [] (st1 := [.int v51]) zm_X9_reachDay (zc_X9_reachDay hc51) zk_0 rfl kw_3_206 dX9_member_155 rfl (by decide) (Nat.le_of_ble_eq_true rfl) rfl rfl ?_
      have h1 := Option.some.inj hf
      subst h1
      exact zw_iret hC hR dX9_member_158
    rw [if_neg hx11_8] at hf
    by_cases hx11_9 : a2 = (9 : Int32)
    · rw [if_pos hx11_9] at hf
      refine zw_tin hC hx11_9 (tgt := 159) dX9_member_11 (by decide) (by decide) rfl (by decide) ?_
      refine zw_aload_n hC dX9_member_159 rfl 0 rfl ?_
      refine zw_getr (k' := 12) hC zF_ClassOfMany_now zk_0 rfl dX9_member_160 kw_2_169 ?_
      refine zw_getr (k' := 13) hC zF_Standing_foes zk_12 rfl dX9_member_163 kw_1_171 ?_
      refine zw_iload_n hC dX9_member_166 rfl 1 rfl ?_
      refine zw_iald hC hf zk_13 dX9_member_167 (fun v52 hf => ?_)
      have h1 := Option.some.inj hf
      subst h1
      exact zw_iret hC hR dX9_member_168
    rw [if_neg hx11_9] at hf
    refine zw_tout hC (tgt := 169) dX9_member_11 (ztout (n := 9) (fun k hk => by match k, hk with | 0, _ => exact hx11_0 | 1, _ => exact hx11_1 | 2, _ => exact hx11_2 | 3, _ => exact hx11_3 | 4, _ => exact hx11_4 | 5, _ => exact hx11_5 | 6, _ => exact hx11_6 | 7, _ => exact hx11_7 | 8, _ => exact hx11_8 | 9, _ => exact hx11_9 | k + 10, hk => exact absurd hk (by omega))) (by decide) ?_
    refine zw_iconst hC (v := (-1 : Int32)) dX9_member_169 (by decide) ?_
    have h1 := Option.some.inj hf
    subst h1
    exact zw_iret hC hR dX9_member_170
  · refine zw_iconst hC (v := (-1 : Int32)) dX9_member_8 (by decide) ?_
    have h1 := Option.some.inj hf
    subst h1
    exact zw_iret hC hR dX9_member_9
/-! ClassOfMany.reachedThrough(I)I -/
theorem dX9_reachedThrough_0 : decode cX9_reachedThrough 0 = .ok (.iconst 0, 1) := by decide +kernel
theorem dX9_reachedThrough_1 : decode cX9_reachedThrough 1 = .ok (.istore_n 2, 1) := by decide +kernel
theorem dX9_reachedThrough_2 : decode cX9_reachedThrough 2 = .ok (.iconst 0, 1) := by decide +kernel
theorem dX9_reachedThrough_3 : decode cX9_reachedThrough 3 = .ok (.istore_n 3, 1) := by decide +kernel
theorem dX9_reachedThrough_4 : decode cX9_reachedThrough 4 = .ok (.iload_n 3, 1) := by decide +kernel
theorem dX9_reachedThrough_5 : decode cX9_reachedThrough 5 = .ok (.aload_n 0, 1) := by decide +kernel
theorem dX9_reachedThrough_6 : decode cX9_reachedThrough 6 = .ok (.getfield 12, 3) := by decide +kernel
theorem dX9_reachedThrough_9 : decode cX9_reachedThrough 9 = .ok (.getfield 92, 3) := by decide +kernel
theorem dX9_reachedThrough_12 : decode cX9_reachedThrough 12 = .ok (.if_icmp .ge 25, 3) := by decide +kernel
theorem dX9_reachedThrough_15 : decode cX9_reachedThrough 15 = .ok (.iload_n 2, 1) := by decide +kernel
theorem dX9_reachedThrough_16 : decode cX9_reachedThrough 16 = .ok (.aload_n 0, 1) := by decide +kernel
theorem dX9_reachedThrough_17 : decode cX9_reachedThrough 17 = .ok (.getfield 12, 3) := by decide +kernel
theorem dX9_reachedThrough_20 : decode cX9_reachedThrough 20 = .ok (.getfield 209, 3) := by decide +kernel
theorem dX9_reachedThrough_23 : decode cX9_reachedThrough 23 = .ok (.iload_n 3, 1) := by decide +kernel
theorem dX9_reachedThrough_24 : decode cX9_reachedThrough 24 = .ok (.iaload, 1) := by decide +kernel
theorem dX9_reachedThrough_25 : decode cX9_reachedThrough 25 = .ok (.iload_n 1, 1) := by decide +kernel
theorem dX9_reachedThrough_26 : decode cX9_reachedThrough 26 = .ok (.invokestatic 215, 3) := by decide +kernel
theorem dX9_reachedThrough_29 : decode cX9_reachedThrough 29 = .ok (.iadd, 1) := by decide +kernel
theorem dX9_reachedThrough_30 : decode cX9_reachedThrough 30 = .ok (.istore_n 2, 1) := by decide +kernel
theorem dX9_reachedThrough_31 : decode cX9_reachedThrough 31 = .ok (.iinc 3 1, 3) := by decide +kernel
theorem dX9_reachedThrough_34 : decode cX9_reachedThrough 34 = .ok (.goto (-30), 3) := by decide +kernel
theorem dX9_reachedThrough_37 : decode cX9_reachedThrough 37 = .ok (.iload_n 2, 1) := by decide +kernel
theorem dX9_reachedThrough_38 : decode cX9_reachedThrough 38 = .ok (.ireturn, 1) := by decide +kernel
theorem zm_X9_reachedThrough : ZMv "ClassOfMany" yX9_reachedThrough cX9_reachedThrough 4 (some .int) 1 := ⟨kw_4_53, kw_4_52, kp_24, kw_1_1, by decide +kernel, by decide⟩
def zf_X9_reachedThrough_L4 (M : ZMem) (a1 : Int32) (K37 : Int32 → Option (Int32)) : Nat → Int32 → Int32 → Option (Int32)
  | 0, _, _ => none
  | n4 + 1, v25, v26 =>
  zdy M 0 0 (7, 17) (fun o28 => (if (M o28 0) ≤ v26 then (K37 v25) else zdy M 0 0 (7, 17) (fun o29 => zrd M (o29 + 4) 10 v26 (fun v30 => zb1 (zf_X9_bitOf v30 a1) (fun v31 => (zf_X9_reachedThrough_L4 M a1 K37 n4 (v25 + v31) (v26 + (1 : Int32))))))))
def zf_X9_reachedThrough (n : Nat) (a1 : Int32) (M : ZMem) : Option (Int32) :=
  (zf_X9_reachedThrough_L4 M a1 (fun v32 => some v32) n (0 : Int32) (0 : Int32))
set_option maxHeartbeats 4000000 in
set_option maxRecDepth 100000 in
theorem zc_X9_reachedThrough {l : Launch} {D : va_G} {ad : Nat → Nat} {cA : Nat → ClassId} {n : Nat} {a1 : Int32} {M : ZMem} {r : Int32} (hf : zf_X9_reachedThrough n a1 M = some r) : ZCt l D ad cA yX9_reachedThrough cX9_reachedThrough 4 (some .int) 2 [.ref (ad 0), .int a1] M (some (.int r)) M := by
  refine zct (by decide +kernel) (Nat.le_of_ble_eq_true rfl) (lv := [(0, .ref (ad 0)), (1, .int a1)]) rfl (fun E hl hD had hcA hN hC hR => ?_)
  subst hl; subst hD; subst had; subst hcA
  unfold zf_X9_reachedThrough at hf
  refine zw_iconst hC (v := (0 : Int32)) dX9_reachedThrough_0 (by decide) ?_
  refine zw_istore_n hC (lv' := [(2, .int (0 : Int32)), (0, .ref (zad E 0)), (1, .int a1)]) dX9_reachedThrough_1 rfl hN (by decide) rfl ?_
  refine zw_iconst hC (v := (0 : Int32)) dX9_reachedThrough_2 (by decide) ?_
  refine zw_istore_n hC (lv' := [(3, .int (0 : Int32)), (2, .int (0 : Int32)), (0, .ref (zad E 0)), (1, .int a1)]) dX9_reachedThrough_3 rfl hN (by decide) rfl ?_
  have hL4 : ∀ (K37 : Int32 → Option (Int32)), (∀ (v27 : Int32), K37 v27 = some r → ZW E 37 [(2, .int v27)] [] M) → ∀ (n4 : Nat), ∀ (v25 : Int32), ∀ (v26 : Int32), zf_X9_reachedThrough_L4 M a1 K37 n4 v25 v26 = some r → ZW E 4 [(0, .ref (zad E 0)), (1, .int a1), (2, .int v25), (3, .int v26)] [] M := by
    intro K37 hK37
    intro n4
    induction n4 with
    | zero => intro v25 v26 hf; rw [zf_X9_reachedThrough_L4] at hf; cases hf
    | succ n4 ih4 =>
      intro v25 v26 hf
      rw [zf_X9_reachedThrough_L4] at hf
      refine zw_iload_n hC dX9_reachedThrough_4 rfl 3 rfl ?_
      refine zw_aload_n hC dX9_reachedThrough_5 rfl 0 rfl ?_
      refine zw_getd hC hf zF_ClassOfMany_told zk_0 dX9_reachedThrough_6 kw_2_168 (fun o28 ho28 hf => ?_)
      refine zw_geti hC zF_Told_members ho28 dX9_reachedThrough_9 kw_1_38 ?_
      refine zw_icmp_ge hC 37 hf dX9_reachedThrough_12 (by decide) (fun hf => ?_) (fun hf => ?_)
      · exact zw_sub [2] rfl (hK37 v25 hf)
      · refine zw_iload_n hC dX9_reachedThrough_15 rfl 2 rfl ?_
        refine zw_aload_n hC dX9_reachedThrough_16 rfl 0 rfl ?_
        refine zw_getd hC hf zF_ClassOfMany_told zk_0 dX9_reachedThrough_17 kw_2_168 (fun o29 ho29 hf => ?_)
        refine zw_getr (k' := (o29 + 4)) hC zF_Told_reach ho29 rfl dX9_reachedThrough_20 kw_1_60 ?_
        refine zw_iload_n hC dX9_reachedThrough_23 rfl 3 rfl ?_
        refine zw_iald hC hf (zko_7_4 ho29) dX9_reachedThrough_24 (fun v30 hf => ?_)
        refine zw_iload_n hC dX9_reachedThrough_25 rfl 1 rfl ?_
        obtain ⟨v31, hc31, hf⟩ := zb1_some hf
        refine zw_cS hC [.int v30, .int a1] [.int v25] (st1 := [.int v31, .int v25]) zm_X9_bitOf (zc_X9_bitOf hc31) kw_4_43 dX9_reachedThrough_26 rfl (by decide) (Nat.le_of_ble_eq_true rfl) rfl rfl ?_
        refine zw_iadd hC dX9_reachedThrough_29 ?_
        refine zw_istore_n hC (lv' := [(2, .int (v25 + v31)), (0, .ref (zad E 0)), (1, .int a1), (3, .int v26)]) dX9_reachedThrough_30 rfl hN (by decide) rfl ?_
        refine zw_iinc hC (v := (1 : Int32)) (lv' := [(3, .int (v26 + (1 : Int32))), (2, .int (v25 + v31)), (0, .ref (zad E 0)), (1, .int a1)]) dX9_reachedThrough_31 3 rfl (by decide) hN (by decide) rfl ?_
        refine zw_goto hC 4 dX9_reachedThrough_34 (by decide) ?_
        exact zw_sub [2, 3, 1, 0] rfl (ih4 (v25 + v31) (v26 + (1 : Int32)) hf)
  refine zw_sub [2, 3, 1, 0] rfl (hL4 _ ?_ n (0 : Int32) (0 : Int32) hf)
  · intro v32 hf
    refine zw_iload_n hC dX9_reachedThrough_37 rfl 0 rfl ?_
    have h1 := Option.some.inj hf
    subst h1
    exact zw_iret hC hR dX9_reachedThrough_38
/-! ClassOfMany.channel(II)I -/
theorem dX9_channel_0 : decode cX9_channel 0 = .ok (.iload_n 1, 1) := by decide +kernel
theorem dX9_channel_1 : decode cX9_channel 1 = .ok (.ifCond .lt 14, 3) := by decide +kernel
theorem dX9_channel_4 : decode cX9_channel 4 = .ok (.iload_n 1, 1) := by decide +kernel
theorem dX9_channel_5 : decode cX9_channel 5 = .ok (.aload_n 0, 1) := by decide +kernel
theorem dX9_channel_6 : decode cX9_channel 6 = .ok (.getfield 12, 3) := by decide +kernel
theorem dX9_channel_9 : decode cX9_channel 9 = .ok (.getfield 117, 3) := by decide +kernel
theorem dX9_channel_12 : decode cX9_channel 12 = .ok (.if_icmp .lt 5, 3) := by decide +kernel
theorem dX9_channel_15 : decode cX9_channel 15 = .ok (.iconst (-1), 1) := by decide +kernel
theorem dX9_channel_16 : decode cX9_channel 16 = .ok (.ireturn, 1) := by decide +kernel
theorem dX9_channel_17 : decode cX9_channel 17 = .ok (.iload_n 2, 1) := by decide +kernel
theorem dX9_channel_18 : decode cX9_channel 18 = .ok (.tableswitch 52 0 2 #[26, 36, 46], 26) := by decide +kernel
theorem dX9_channel_44 : decode cX9_channel 44 = .ok (.aload_n 0, 1) := by decide +kernel
theorem dX9_channel_45 : decode cX9_channel 45 = .ok (.getfield 12, 3) := by decide +kernel
theorem dX9_channel_48 : decode cX9_channel 48 = .ok (.getfield 222, 3) := by decide +kernel
theorem dX9_channel_51 : decode cX9_channel 51 = .ok (.iload_n 1, 1) := by decide +kernel
theorem dX9_channel_52 : decode cX9_channel 52 = .ok (.iaload, 1) := by decide +kernel
theorem dX9_channel_53 : decode cX9_channel 53 = .ok (.ireturn, 1) := by decide +kernel
theorem dX9_channel_54 : decode cX9_channel 54 = .ok (.aload_n 0, 1) := by decide +kernel
theorem dX9_channel_55 : decode cX9_channel 55 = .ok (.getfield 12, 3) := by decide +kernel
theorem dX9_channel_58 : decode cX9_channel 58 = .ok (.getfield 225, 3) := by decide +kernel
theorem dX9_channel_61 : decode cX9_channel 61 = .ok (.iload_n 1, 1) := by decide +kernel
theorem dX9_channel_62 : decode cX9_channel 62 = .ok (.iaload, 1) := by decide +kernel
theorem dX9_channel_63 : decode cX9_channel 63 = .ok (.ireturn, 1) := by decide +kernel
theorem dX9_channel_64 : decode cX9_channel 64 = .ok (.aload_n 0, 1) := by decide +kernel
theorem dX9_channel_65 : decode cX9_channel 65 = .ok (.iload_n 1, 1) := by decide +kernel
theorem dX9_channel_66 : decode cX9_channel 66 = .ok (.invokevirtual 228, 3) := by decide +kernel
theorem dX9_channel_69 : decode cX9_channel 69 = .ok (.ireturn, 1) := by decide +kernel
theorem dX9_channel_70 : decode cX9_channel 70 = .ok (.iconst (-1), 1) := by decide +kernel
theorem dX9_channel_71 : decode cX9_channel 71 = .ok (.ireturn, 1) := by decide +kernel
theorem zm_X9_channel : ZMv "ClassOfMany" yX9_channel cX9_channel 3 (some .int) 2 := ⟨kw_4_49, kw_4_47, kw_4_48, kw_1_1, by decide +kernel, by decide⟩
def zf_X9_channel_j15 : Option (Int32) :=
  some (-1 : Int32)
def zf_X9_channel (n : Nat) (a1 : Int32) (a2 : Int32) (M : ZMem) : Option (Int32) :=
  (if a1 < 0 then (zf_X9_channel_j15) else zdy M 0 0 (7, 17) (fun o27 => (if a1 < (M o27 1) then (if a2 = (0 : Int32) then zdy M 0 0 (7, 17) (fun o28 => zrd M (o28 + 5) 4 a1 (fun v29 => some v29)) else (if a2 = (1 : Int32) then zdy M 0 0 (7, 17) (fun o30 => zrd M (o30 + 6) 4 a1 (fun v31 => some v31)) else (if a2 = (2 : Int32) then zb1 (zf_X9_reachedThrough n a1 M) (fun v32 => some v32) else some (-1 : Int32)))) else (zf_X9_channel_j15))))
set_option maxHeartbeats 4000000 in
set_option maxRecDepth 100000 in
theorem zc_X9_channel {l : Launch} {D : va_G} {ad : Nat → Nat} {cA : Nat → ClassId} {n : Nat} {a1 : Int32} {a2 : Int32} {M : ZMem} {r : Int32} (hf : zf_X9_channel n a1 a2 M = some r) : ZCt l D ad cA yX9_channel cX9_channel 3 (some .int) 3 [.ref (ad 0), .int a1, .int a2] M (some (.int r)) M := by
  refine zct (by decide +kernel) (Nat.le_of_ble_eq_true rfl) (lv := [(0, .ref (ad 0)), (1, .int a1), (2, .int a2)]) rfl (fun E hl hD had hcA hN hC hR => ?_)
  subst hl; subst hD; subst had; subst hcA
  unfold zf_X9_channel at hf
  refine zw_iload_n hC dX9_channel_0 rfl 1 rfl ?_
  have hj15 : zf_X9_channel_j15 = some r → ZW E 15 [] [] M := by
    intro  hf
    unfold zf_X9_channel_j15 at hf
    refine zw_iconst hC (v := (-1 : Int32)) dX9_channel_15 (by decide) ?_
    have h1 := Option.some.inj hf
    subst h1
    exact zw_iret hC hR dX9_channel_16
  refine zw_if_lt hC 15 hf dX9_channel_1 (by decide) (fun hf => ?_) (fun hf => ?_)
  · exact zw_sub [] rfl (hj15 hf)
  · refine zw_iload_n hC dX9_channel_4 rfl 1 rfl ?_
    refine zw_aload_n hC dX9_channel_5 rfl 0 rfl ?_
    refine zw_getd hC hf zF_ClassOfMany_told zk_0 dX9_channel_6 kw_2_168 (fun o27 ho27 hf => ?_)
    refine zw_geti hC zF_Told_channels ho27 dX9_channel_9 kw_1_44 ?_
    refine zw_icmp_lt hC 17 hf dX9_channel_12 (by decide) (fun hf => ?_) (fun hf => ?_)
    · refine zw_iload_n hC dX9_channel_17 rfl 2 rfl ?_
      by_cases hx18_0 : a2 = (0 : Int32)
      · rw [if_pos hx18_0] at hf
        refine zw_tin hC hx18_0 (tgt := 44) dX9_channel_18 (by decide) (by decide) rfl (by decide) ?_
        refine zw_aload_n hC dX9_channel_44 rfl 0 rfl ?_
        refine zw_getd hC hf zF_ClassOfMany_told zk_0 dX9_channel_45 kw_2_168 (fun o28 ho28 hf => ?_)
        refine zw_getr (k' := (o28 + 5)) hC zF_Told_cost ho28 rfl dX9_channel_48 kw_1_64 ?_
        refine zw_iload_n hC dX9_channel_51 rfl 1 rfl ?_
        refine zw_iald hC hf (zko_7_5 ho28) dX9_channel_52 (fun v29 hf => ?_)
        have h1 := Option.some.inj hf
        subst h1
        exact zw_iret hC hR dX9_channel_53
      rw [if_neg hx18_0] at hf
      by_cases hx18_1 : a2 = (1 : Int32)
      · rw [if_pos hx18_1] at hf
        refine zw_tin hC hx18_1 (tgt := 54) dX9_channel_18 (by decide) (by decide) rfl (by decide) ?_
        refine zw_aload_n hC dX9_channel_54 rfl 0 rfl ?_
        refine zw_getd hC hf zF_ClassOfMany_told zk_0 dX9_channel_55 kw_2_168 (fun o30 ho30 hf => ?_)
        refine zw_getr (k' := (o30 + 6)) hC zF_Told_wait ho30 rfl dX9_channel_58 kw_1_68 ?_
        refine zw_iload_n hC dX9_channel_61 rfl 1 rfl ?_
        refine zw_iald hC hf (zko_7_6 ho30) dX9_channel_62 (fun v31 hf => ?_)
        have h1 := Option.some.inj hf
        subst h1
        exact zw_iret hC hR dX9_channel_63
      rw [if_neg hx18_1] at hf
      by_cases hx18_2 : a2 = (2 : Int32)
      · rw [if_pos hx18_2] at hf
        refine zw_tin hC hx18_2 (tgt := 64) dX9_channel_18 (by decide) (by decide) rfl (by decide) ?_
        refine zw_aload_n hC dX9_channel_64 rfl 0 rfl ?_
        refine zw_iload_n hC dX9_channel_65 rfl 1 rfl ?_
        obtain ⟨v32, hc32, hf⟩ := zb1_some hf
        refine zw_cV hC [.int a1] [] (st1 := [.int v32]) zm_X9_reachedThrough (zc_X9_reachedThrough hc32) zk_0 rfl kw_4_50 dX9_channel_66 rfl (by decide) (Nat.le_of_ble_eq_true rfl) rfl rfl ?_
        have h1 := Option.some.inj hf
        subst h1
        exact zw_iret hC hR dX9_channel_69
      rw [if_neg hx18_2] at hf
      refine zw_tout hC (tgt := 70) dX9_channel_18 (ztout (n := 2) (fun k hk => by match k, hk with | 0, _ => exact hx18_0 | 1, _ => exact hx18_1 | 2, _ => exact hx18_2 | k + 3, hk => exact absurd hk (by omega))) (by decide) ?_
      refine zw_iconst hC (v := (-1 : Int32)) dX9_channel_70 (by decide) ?_
      have h1 := Option.some.inj hf
      subst h1
      exact zw_iret hC hR dX9_channel_71
    · exact zw_sub [] rfl (hj15 hf)
/-! ClassOfMany.line(II)I -/
theorem dX9_line_0 : decode cX9_line 0 = .ok (.iload_n 1, 1) := by decide +kernel
theorem dX9_line_1 : decode cX9_line 1 = .ok (.ifCond .lt 18, 3) := by decide +kernel
theorem dX9_line_4 : decode cX9_line 4 = .ok (.iload_n 1, 1) := by decide +kernel
theorem dX9_line_5 : decode cX9_line 5 = .ok (.aload_n 0, 1) := by decide +kernel
theorem dX9_line_6 : decode cX9_line 6 = .ok (.getfield 12, 3) := by decide +kernel
theorem dX9_line_9 : decode cX9_line 9 = .ok (.getfield 231, 3) := by decide +kernel
theorem dX9_line_12 : decode cX9_line 12 = .ok (.if_icmp .ge 7, 3) := by decide +kernel
theorem dX9_line_15 : decode cX9_line 15 = .ok (.iload_n 2, 1) := by decide +kernel
theorem dX9_line_16 : decode cX9_line 16 = .ok (.ifCond .ge 5, 3) := by decide +kernel
theorem dX9_line_19 : decode cX9_line 19 = .ok (.iconst (-1), 1) := by decide +kernel
theorem dX9_line_20 : decode cX9_line 20 = .ok (.ireturn, 1) := by decide +kernel
theorem dX9_line_21 : decode cX9_line 21 = .ok (.iload_n 2, 1) := by decide +kernel
theorem dX9_line_22 : decode cX9_line 22 = .ok (.ifCond .ne 13, 3) := by decide +kernel
theorem dX9_line_25 : decode cX9_line 25 = .ok (.aload_n 0, 1) := by decide +kernel
theorem dX9_line_26 : decode cX9_line 26 = .ok (.getfield 12, 3) := by decide +kernel
theorem dX9_line_29 : decode cX9_line 29 = .ok (.getfield 234, 3) := by decide +kernel
theorem dX9_line_32 : decode cX9_line 32 = .ok (.iload_n 1, 1) := by decide +kernel
theorem dX9_line_33 : decode cX9_line 33 = .ok (.iaload, 1) := by decide +kernel
theorem dX9_line_34 : decode cX9_line 34 = .ok (.ireturn, 1) := by decide +kernel
theorem dX9_line_35 : decode cX9_line 35 = .ok (.iload_n 2, 1) := by decide +kernel
theorem dX9_line_36 : decode cX9_line 36 = .ok (.aload_n 0, 1) := by decide +kernel
theorem dX9_line_37 : decode cX9_line 37 = .ok (.getfield 12, 3) := by decide +kernel
theorem dX9_line_40 : decode cX9_line 40 = .ok (.getfield 237, 3) := by decide +kernel
theorem dX9_line_43 : decode cX9_line 43 = .ok (.iload_n 1, 1) := by decide +kernel
theorem dX9_line_44 : decode cX9_line 44 = .ok (.iaload, 1) := by decide +kernel
theorem dX9_line_45 : decode cX9_line 45 = .ok (.if_icmp .le 6, 3) := by decide +kernel
theorem dX9_line_48 : decode cX9_line 48 = .ok (.bipush (-2), 2) := by decide +kernel
theorem dX9_line_50 : decode cX9_line 50 = .ok (.ireturn, 1) := by decide +kernel
theorem dX9_line_51 : decode cX9_line 51 = .ok (.aload_n 0, 1) := by decide +kernel
theorem dX9_line_52 : decode cX9_line 52 = .ok (.getfield 12, 3) := by decide +kernel
theorem dX9_line_55 : decode cX9_line 55 = .ok (.getfield 240, 3) := by decide +kernel
theorem dX9_line_58 : decode cX9_line 58 = .ok (.aload_n 0, 1) := by decide +kernel
theorem dX9_line_59 : decode cX9_line 59 = .ok (.getfield 12, 3) := by decide +kernel
theorem dX9_line_62 : decode cX9_line 62 = .ok (.getfield 243, 3) := by decide +kernel
theorem dX9_line_65 : decode cX9_line 65 = .ok (.iload_n 1, 1) := by decide +kernel
theorem dX9_line_66 : decode cX9_line 66 = .ok (.iaload, 1) := by decide +kernel
theorem dX9_line_67 : decode cX9_line 67 = .ok (.iload_n 2, 1) := by decide +kernel
theorem dX9_line_68 : decode cX9_line 68 = .ok (.iadd, 1) := by decide +kernel
theorem dX9_line_69 : decode cX9_line 69 = .ok (.iconst 1, 1) := by decide +kernel
theorem dX9_line_70 : decode cX9_line 70 = .ok (.isub, 1) := by decide +kernel
theorem dX9_line_71 : decode cX9_line 71 = .ok (.iaload, 1) := by decide +kernel
theorem dX9_line_72 : decode cX9_line 72 = .ok (.ireturn, 1) := by decide +kernel
theorem zm_X9_line : ZMv "ClassOfMany" yX9_line cX9_line 3 (some .int) 2 := ⟨kw_4_57, kw_4_55, kw_4_56, kw_1_1, by decide +kernel, by decide⟩
def zf_X9_line_j19 : Option (Int32) :=
  some (-1 : Int32)
def zf_X9_line (a1 : Int32) (a2 : Int32) (M : ZMem) : Option (Int32) :=
  (if a1 < 0 then (zf_X9_line_j19) else zdy M 0 0 (7, 17) (fun o30 => (if (M o30 11) ≤ a1 then (zf_X9_line_j19) else (if 0 ≤ a2 then (if a2 = 0 then zdy M 0 0 (7, 17) (fun o37 => zrd M (o37 + 7) 80 a1 (fun v38 => some v38)) else zdy M 0 0 (7, 17) (fun o31 => zrd M (o31 + 9) 80 a1 (fun v32 => (if a2 ≤ v32 then zdy M 0 0 (7, 17) (fun o33 => zdy M 0 0 (7, 17) (fun o34 => zrd M (o34 + 8) 80 a1 (fun v35 => zrd M (o33 + 10) 200 ((v35 + a2) - (1 : Int32)) (fun v36 => some v36)))) else some (-2 : Int32))))) else (zf_X9_line_j19)))))
set_option maxHeartbeats 4000000 in
set_option maxRecDepth 100000 in
theorem zc_X9_line {l : Launch} {D : va_G} {ad : Nat → Nat} {cA : Nat → ClassId} {a1 : Int32} {a2 : Int32} {M : ZMem} {r : Int32} (hf : zf_X9_line a1 a2 M = some r) : ZCt l D ad cA yX9_line cX9_line 3 (some .int) 1 [.ref (ad 0), .int a1, .int a2] M (some (.int r)) M := by
  refine zct (by decide +kernel) (Nat.le_of_ble_eq_true rfl) (lv := [(0, .ref (ad 0)), (1, .int a1), (2, .int a2)]) rfl (fun E hl hD had hcA hN hC hR => ?_)
  subst hl; subst hD; subst had; subst hcA
  unfold zf_X9_line at hf
  refine zw_iload_n hC dX9_line_0 rfl 1 rfl ?_
  have hj19 : zf_X9_line_j19 = some r → ZW E 19 [] [] M := by
    intro  hf
    unfold zf_X9_line_j19 at hf
    refine zw_iconst hC (v := (-1 : Int32)) dX9_line_19 (by decide) ?_
    have h1 := Option.some.inj hf
    subst h1
    exact zw_iret hC hR dX9_line_20
  refine zw_if_lt hC 19 hf dX9_line_1 (by decide) (fun hf => ?_) (fun hf => ?_)
  · exact zw_sub [] rfl (hj19 hf)
  · refine zw_iload_n hC dX9_line_4 rfl 1 rfl ?_
    refine zw_aload_n hC dX9_line_5 rfl 0 rfl ?_
    refine zw_getd hC hf zF_ClassOfMany_told zk_0 dX9_line_6 kw_2_168 (fun o30 ho30 hf => ?_)
    refine zw_geti hC zF_Told_lines ho30 dX9_line_9 kw_1_80 ?_
    refine zw_icmp_ge hC 19 hf dX9_line_12 (by decide) (fun hf => ?_) (fun hf => ?_)
    · exact zw_sub [] rfl (hj19 hf)
    · refine zw_iload_n hC dX9_line_15 rfl 2 rfl ?_
      refine zw_if_ge hC 21 hf dX9_line_16 (by decide) (fun hf => ?_) (fun hf => ?_)
      · refine zw_iload_n hC dX9_line_21 rfl 2 rfl ?_
        refine zw_if_ne hC 35 hf dX9_line_22 (by decide) (fun hf => ?_) (fun hf => ?_)
        · refine zw_iload_n hC dX9_line_35 rfl 2 rfl ?_
          refine zw_aload_n hC dX9_line_36 rfl 0 rfl ?_
          refine zw_getd hC hf zF_ClassOfMany_told zk_0 dX9_line_37 kw_2_168 (fun o31 ho31 hf => ?_)
          refine zw_getr (k' := (o31 + 9)) hC zF_Told_sizes ho31 rfl dX9_line_40 kw_1_86 ?_
          refine zw_iload_n hC dX9_line_43 rfl 1 rfl ?_
          refine zw_iald hC hf (zko_7_9 ho31) dX9_line_44 (fun v32 hf => ?_)
          refine zw_icmp_le hC 51 hf dX9_line_45 (by decide) (fun hf => ?_) (fun hf => ?_)
          · refine zw_aload_n hC dX9_line_51 rfl 0 rfl ?_
            refine zw_getd hC hf zF_ClassOfMany_told zk_0 dX9_line_52 kw_2_168 (fun o33 ho33 hf => ?_)
            refine zw_getr (k' := (o33 + 10)) hC zF_Told_numbers ho33 rfl dX9_line_55 kw_1_89 ?_
            refine zw_aload_n hC dX9_line_58 rfl 0 rfl ?_
            refine zw_getd hC hf zF_ClassOfMany_told zk_0 dX9_line_59 kw_2_168 (fun o34 ho34 hf => ?_)
            refine zw_getr (k' := (o34 + 8)) hC zF_Told_starts ho34 rfl dX9_line_62 kw_1_84 ?_
            refine zw_iload_n hC dX9_line_65 rfl 1 rfl ?_
            refine zw_iald hC hf (zko_7_8 ho34) dX9_line_66 (fun v35 hf => ?_)
            refine zw_iload_n hC dX9_line_67 rfl 2 rfl ?_
            refine zw_iadd hC dX9_line_68 ?_
            refine zw_iconst hC (v := (1 : Int32)) dX9_line_69 (by decide) ?_
            refine zw_isub hC dX9_line_70 ?_
            refine zw_iald hC hf (zko_7_10 ho33) dX9_line_71 (fun v36 hf => ?_)
            have h1 := Option.some.inj hf
            subst h1
            exact zw_iret hC hR dX9_line_72
          · refine zw_bipush hC (v := (-2 : Int32)) dX9_line_48 (by decide) ?_
            have h1 := Option.some.inj hf
            subst h1
            exact zw_iret hC hR dX9_line_50
        · refine zw_aload_n hC dX9_line_25 rfl 0 rfl ?_
          refine zw_getd hC hf zF_ClassOfMany_told zk_0 dX9_line_26 kw_2_168 (fun o37 ho37 hf => ?_)
          refine zw_getr (k' := (o37 + 7)) hC zF_Told_sorts ho37 rfl dX9_line_29 kw_1_82 ?_
          refine zw_iload_n hC dX9_line_32 rfl 1 rfl ?_
          refine zw_iald hC hf (zko_7_7 ho37) dX9_line_33 (fun v38 hf => ?_)
          have h1 := Option.some.inj hf
          subst h1
          exact zw_iret hC hR dX9_line_34
      · exact zw_sub [] rfl (hj19 hf)
/-! ClassOfMany.rankOf(I)I -/
theorem dX9_rankOf_0 : decode cX9_rankOf 0 = .ok (.aload_n 0, 1) := by decide +kernel
theorem dX9_rankOf_1 : decode cX9_rankOf 1 = .ok (.getfield 19, 3) := by decide +kernel
theorem dX9_rankOf_4 : decode cX9_rankOf 4 = .ok (.aload_n 0, 1) := by decide +kernel
theorem dX9_rankOf_5 : decode cX9_rankOf 5 = .ok (.getfield 12, 3) := by decide +kernel
theorem dX9_rankOf_8 : decode cX9_rankOf 8 = .ok (.iload_n 1, 1) := by decide +kernel
theorem dX9_rankOf_9 : decode cX9_rankOf 9 = .ok (.invokevirtual 212, 3) := by decide +kernel
theorem dX9_rankOf_12 : decode cX9_rankOf 12 = .ok (.istore_n 2, 1) := by decide +kernel
theorem dX9_rankOf_13 : decode cX9_rankOf 13 = .ok (.iconst 0, 1) := by decide +kernel
theorem dX9_rankOf_14 : decode cX9_rankOf 14 = .ok (.istore_n 3, 1) := by decide +kernel
theorem dX9_rankOf_15 : decode cX9_rankOf 15 = .ok (.iconst 0, 1) := by decide +kernel
theorem dX9_rankOf_16 : decode cX9_rankOf 16 = .ok (.istore 4, 2) := by decide +kernel
theorem dX9_rankOf_18 : decode cX9_rankOf 18 = .ok (.iload 4, 2) := by decide +kernel
theorem dX9_rankOf_20 : decode cX9_rankOf 20 = .ok (.aload_n 0, 1) := by decide +kernel
theorem dX9_rankOf_21 : decode cX9_rankOf 21 = .ok (.getfield 12, 3) := by decide +kernel
theorem dX9_rankOf_24 : decode cX9_rankOf 24 = .ok (.getfield 92, 3) := by decide +kernel
theorem dX9_rankOf_27 : decode cX9_rankOf 27 = .ok (.if_icmp .ge 45, 3) := by decide +kernel
theorem dX9_rankOf_30 : decode cX9_rankOf 30 = .ok (.aload_n 0, 1) := by decide +kernel
theorem dX9_rankOf_31 : decode cX9_rankOf 31 = .ok (.getfield 19, 3) := by decide +kernel
theorem dX9_rankOf_34 : decode cX9_rankOf 34 = .ok (.aload_n 0, 1) := by decide +kernel
theorem dX9_rankOf_35 : decode cX9_rankOf 35 = .ok (.getfield 12, 3) := by decide +kernel
theorem dX9_rankOf_38 : decode cX9_rankOf 38 = .ok (.iload 4, 2) := by decide +kernel
theorem dX9_rankOf_40 : decode cX9_rankOf 40 = .ok (.invokevirtual 212, 3) := by decide +kernel
theorem dX9_rankOf_43 : decode cX9_rankOf 43 = .ok (.istore 5, 2) := by decide +kernel
theorem dX9_rankOf_45 : decode cX9_rankOf 45 = .ok (.iload 5, 2) := by decide +kernel
theorem dX9_rankOf_47 : decode cX9_rankOf 47 = .ok (.iload_n 2, 1) := by decide +kernel
theorem dX9_rankOf_48 : decode cX9_rankOf 48 = .ok (.if_icmp .gt 15, 3) := by decide +kernel
theorem dX9_rankOf_51 : decode cX9_rankOf 51 = .ok (.iload 5, 2) := by decide +kernel
theorem dX9_rankOf_53 : decode cX9_rankOf 53 = .ok (.iload_n 2, 1) := by decide +kernel
theorem dX9_rankOf_54 : decode cX9_rankOf 54 = .ok (.if_icmp .ne 12, 3) := by decide +kernel
theorem dX9_rankOf_57 : decode cX9_rankOf 57 = .ok (.iload 4, 2) := by decide +kernel
theorem dX9_rankOf_59 : decode cX9_rankOf 59 = .ok (.iload_n 1, 1) := by decide +kernel
theorem dX9_rankOf_60 : decode cX9_rankOf 60 = .ok (.if_icmp .ge 6, 3) := by decide +kernel
theorem dX9_rankOf_63 : decode cX9_rankOf 63 = .ok (.iinc 3 1, 3) := by decide +kernel
theorem dX9_rankOf_66 : decode cX9_rankOf 66 = .ok (.iinc 4 1, 3) := by decide +kernel
theorem dX9_rankOf_69 : decode cX9_rankOf 69 = .ok (.goto (-51), 3) := by decide +kernel
theorem dX9_rankOf_72 : decode cX9_rankOf 72 = .ok (.iload_n 3, 1) := by decide +kernel
theorem dX9_rankOf_73 : decode cX9_rankOf 73 = .ok (.ireturn, 1) := by decide +kernel
theorem zm_X9_rankOf : ZMv "ClassOfMany" yX9_rankOf cX9_rankOf 6 (some .int) 1 := ⟨kw_4_65, kw_4_64, kp_25, kw_1_1, by decide +kernel, by decide⟩
def zf_X9_rankOf_j66 (R18 : Int32 → Int32 → Option (Int32)) (v29 : Int32) (v34 : Int32) : Option (Int32) :=
  (R18 v34 (v29 + (1 : Int32)))
def zf_X9_rankOf_j63 (R18 : Int32 → Int32 → Option (Int32)) (v29 : Int32) (v28 : Int32) : Option (Int32) :=
  (zf_X9_rankOf_j66 R18 v29 (v28 + (1 : Int32)))
def zf_X9_rankOf_L18 (M : ZMem) (v27 : Int32) (a1 : Int32) (K72 : Int32 → Option (Int32)) : Nat → Int32 → Int32 → Option (Int32)
  | 0, _, _ => none
  | n18 + 1, v28, v29 =>
  zdy M 0 0 (7, 17) (fun o31 => (if (M o31 0) ≤ v29 then (K72 v28) else zdy M 0 0 (7, 17) (fun o32 => zb1 (zf_X7_claimOf 12 o32 v29 M) (fun v33 => (if v27 < v33 then (zf_X9_rankOf_j63 (fun x0 x1 => zf_X9_rankOf_L18 M v27 a1 K72 n18 x0 x1) v29 v28) else (if v33 = v27 then (if a1 ≤ v29 then (zf_X9_rankOf_j66 (fun x0 x1 => zf_X9_rankOf_L18 M v27 a1 K72 n18 x0 x1) v29 v28) else (zf_X9_rankOf_j63 (fun x0 x1 => zf_X9_rankOf_L18 M v27 a1 K72 n18 x0 x1) v29 v28)) else (zf_X9_rankOf_j66 (fun x0 x1 => zf_X9_rankOf_L18 M v27 a1 K72 n18 x0 x1) v29 v28)))))))
def zf_X9_rankOf (n : Nat) (a1 : Int32) (M : ZMem) : Option (Int32) :=
  zdy M 0 0 (7, 17) (fun o26 => zb1 (zf_X7_claimOf 12 o26 a1 M) (fun v27 => (zf_X9_rankOf_L18 M v27 a1 (fun v35 => some v35) n (0 : Int32) (0 : Int32))))
set_option maxHeartbeats 4000000 in
set_option maxRecDepth 100000 in
theorem zc_X9_rankOf {l : Launch} {D : va_G} {ad : Nat → Nat} {cA : Nat → ClassId} {n : Nat} {a1 : Int32} {M : ZMem} {r : Int32} (hf : zf_X9_rankOf n a1 M = some r) : ZCt l D ad cA yX9_rankOf cX9_rankOf 6 (some .int) 2 [.ref (ad 0), .int a1] M (some (.int r)) M := by
  refine zct (by decide +kernel) (Nat.le_of_ble_eq_true rfl) (lv := [(0, .ref (ad 0)), (1, .int a1)]) rfl (fun E hl hD had hcA hN hC hR => ?_)
  subst hl; subst hD; subst had; subst hcA
  unfold zf_X9_rankOf at hf
  refine zw_aload_n hC dX9_rankOf_0 rfl 0 rfl ?_
  refine zw_getr (k' := 12) hC zF_ClassOfMany_now zk_0 rfl dX9_rankOf_1 kw_2_169 ?_
  refine zw_aload_n hC dX9_rankOf_4 rfl 0 rfl ?_
  refine zw_getd hC hf zF_ClassOfMany_told zk_0 dX9_rankOf_5 kw_2_168 (fun o26 ho26 hf => ?_)
  refine zw_iload_n hC dX9_rankOf_8 rfl 1 rfl ?_
  obtain ⟨v27, hc27, hf⟩ := zb1_some hf
  refine zw_cV hC [.ref (zad E o26), .int a1] [] (st1 := [.int v27]) zm_X7_claimOf (zc_X7_claimOf zk_12 ho26 hc27) zk_12 rfl kw_4_14 dX9_rankOf_9 rfl (by decide) (Nat.le_of_ble_eq_true rfl) rfl rfl ?_
  refine zw_istore_n hC (lv' := [(2, .int v27), (0, .ref (zad E 0)), (1, .int a1)]) dX9_rankOf_12 rfl hN (by decide) rfl ?_
  refine zw_iconst hC (v := (0 : Int32)) dX9_rankOf_13 (by decide) ?_
  refine zw_istore_n hC (lv' := [(3, .int (0 : Int32)), (2, .int v27), (0, .ref (zad E 0)), (1, .int a1)]) dX9_rankOf_14 rfl hN (by decide) rfl ?_
  refine zw_iconst hC (v := (0 : Int32)) dX9_rankOf_15 (by decide) ?_
  refine zw_istore hC (lv' := [(4, .int (0 : Int32)), (3, .int (0 : Int32)), (2, .int v27), (0, .ref (zad E 0)), (1, .int a1)]) dX9_rankOf_16 hN (by decide) rfl ?_
  have hL18 : ∀ (K72 : Int32 → Option (Int32)), (∀ (v30 : Int32), K72 v30 = some r → ZW E 72 [(3, .int v30)] [] M) → ∀ (n18 : Nat), ∀ (v28 : Int32), ∀ (v29 : Int32), zf_X9_rankOf_L18 M v27 a1 K72 n18 v28 v29 = some r → ZW E 18 [(0, .ref (zad E 0)), (1, .int a1), (2, .int v27), (3, .int v28), (4, .int v29)] [] M := by
    intro K72 hK72
    intro n18
    induction n18 with
    | zero => intro v28 v29 hf; rw [zf_X9_rankOf_L18] at hf; cases hf
    | succ n18 ih18 =>
      intro v28 v29 hf
      rw [zf_X9_rankOf_L18] at hf
      refine zw_iload hC dX9_rankOf_18 4 rfl ?_
      refine zw_aload_n hC dX9_rankOf_20 rfl 0 rfl ?_
      refine zw_getd hC hf zF_ClassOfMany_told zk_0 dX9_rankOf_21 kw_2_168 (fun o31 ho31 hf => ?_)
      refine zw_geti hC zF_Told_members ho31 dX9_rankOf_24 kw_1_38 ?_
      refine zw_icmp_ge hC 72 hf dX9_rankOf_27 (by decide) (fun hf => ?_) (fun hf => ?_)
      · exact zw_sub [3] rfl (hK72 v28 hf)
      · refine zw_aload_n hC dX9_rankOf_30 rfl 0 rfl ?_
        refine zw_getr (k' := 12) hC zF_ClassOfMany_now zk_0 rfl dX9_rankOf_31 kw_2_169 ?_
        refine zw_aload_n hC dX9_rankOf_34 rfl 0 rfl ?_
        refine zw_getd hC hf zF_ClassOfMany_told zk_0 dX9_rankOf_35 kw_2_168 (fun o32 ho32 hf => ?_)
        refine zw_iload hC dX9_rankOf_38 4 rfl ?_
        obtain ⟨v33, hc33, hf⟩ := zb1_some hf
        refine zw_cV hC [.ref (zad E o32), .int v29] [] (st1 := [.int v33]) zm_X7_claimOf (zc_X7_claimOf zk_12 ho32 hc33) zk_12 rfl kw_4_14 dX9_rankOf_40 rfl (by decide) (Nat.le_of_ble_eq_true rfl) rfl rfl ?_
        refine zw_istore hC (lv' := [(5, .int v33), (0, .ref (zad E 0)), (1, .int a1), (2, .int v27), (3, .int v28), (4, .int v29)]) dX9_rankOf_43 hN (by decide) rfl ?_
        refine zw_iload hC dX9_rankOf_45 0 rfl ?_
        refine zw_iload_n hC dX9_rankOf_47 rfl 3 rfl ?_
        have hj66 : ∀ (v34 : Int32), zf_X9_rankOf_j66 (fun x0 x1 => zf_X9_rankOf_L18 M v27 a1 K72 n18 x0 x1) v29 v34 = some r → ZW E 66 [(0, .ref (zad E 0)), (1, .int a1), (2, .int v27), (3, .int v34), (4, .int v29)] [] M := by
          intro v34 hf
          unfold zf_X9_rankOf_j66 at hf
          refine zw_iinc hC (v := (1 : Int32)) (lv' := [(4, .int (v29 + (1 : Int32))), (0, .ref (zad E 0)), (1, .int a1), (2, .int v27), (3, .int v34)]) dX9_rankOf_66 4 rfl (by decide) hN (by decide) rfl ?_
          refine zw_goto hC 18 dX9_rankOf_69 (by decide) ?_
          exact zw_sub [1, 2, 3, 4, 0] rfl (ih18 v34 (v29 + (1 : Int32)) hf)
        have hj63 : zf_X9_rankOf_j63 (fun x0 x1 => zf_X9_rankOf_L18 M v27 a1 K72 n18 x0 x1) v29 v28 = some r → ZW E 63 [(0, .ref (zad E 0)), (1, .int a1), (2, .int v27), (3, .int v28), (4, .int v29)] [] M := by
          intro  hf
          unfold zf_X9_rankOf_j63 at hf
          refine zw_iinc hC (v := (1 : Int32)) (lv' := [(3, .int (v28 + (1 : Int32))), (0, .ref (zad E 0)), (1, .int a1), (2, .int v27), (4, .int v29)]) dX9_rankOf_63 3 rfl (by decide) hN (by decide) rfl ?_
          exact zw_sub [1, 2, 3, 0, 4] rfl (hj66 (v28 + (1 : Int32)) hf)
        refine zw_icmp_gt hC 63 hf dX9_rankOf_48 (by decide) (fun hf => ?_) (fun hf => ?_)
        · exact zw_sub [1, 2, 3, 4, 5] rfl (hj63 hf)
        · refine zw_iload hC dX9_rankOf_51 0 rfl ?_
          refine zw_iload_n hC dX9_rankOf_53 rfl 3 rfl ?_
          refine zw_icmp_ne hC 66 hf dX9_rankOf_54 (by decide) (fun hf => ?_) (fun hf => ?_)
          · exact zw_sub [1, 2, 3, 4, 5] rfl (hj66 v28 hf)
          · refine zw_iload hC dX9_rankOf_57 5 rfl ?_
            refine zw_iload_n hC dX9_rankOf_59 rfl 2 rfl ?_
            refine zw_icmp_ge hC 66 hf dX9_rankOf_60 (by decide) (fun hf => ?_) (fun hf => ?_)
            · exact zw_sub [1, 2, 3, 4, 5] rfl (hj66 v28 hf)
            · exact zw_sub [1, 2, 3, 4, 5] rfl (hj63 hf)
  refine zw_sub [3, 4, 2, 1, 0] rfl (hL18 _ ?_ n (0 : Int32) (0 : Int32) hf)
  · intro v35 hf
    refine zw_iload_n hC dX9_rankOf_72 rfl 0 rfl ?_
    have h1 := Option.some.inj hf
    subst h1
    exact zw_iret hC hR dX9_rankOf_73
/-! ClassOfMany.ranked(I)I -/
theorem dX9_ranked_0 : decode cX9_ranked 0 = .ok (.iconst 0, 1) := by decide +kernel
theorem dX9_ranked_1 : decode cX9_ranked 1 = .ok (.istore_n 2, 1) := by decide +kernel
theorem dX9_ranked_2 : decode cX9_ranked 2 = .ok (.iload_n 2, 1) := by decide +kernel
theorem dX9_ranked_3 : decode cX9_ranked 3 = .ok (.aload_n 0, 1) := by decide +kernel
theorem dX9_ranked_4 : decode cX9_ranked 4 = .ok (.getfield 12, 3) := by decide +kernel
theorem dX9_ranked_7 : decode cX9_ranked 7 = .ok (.getfield 92, 3) := by decide +kernel
theorem dX9_ranked_10 : decode cX9_ranked 10 = .ok (.if_icmp .ge 20, 3) := by decide +kernel
theorem dX9_ranked_13 : decode cX9_ranked 13 = .ok (.aload_n 0, 1) := by decide +kernel
theorem dX9_ranked_14 : decode cX9_ranked 14 = .ok (.iload_n 2, 1) := by decide +kernel
theorem dX9_ranked_15 : decode cX9_ranked 15 = .ok (.invokevirtual 246, 3) := by decide +kernel
theorem dX9_ranked_18 : decode cX9_ranked 18 = .ok (.iload_n 1, 1) := by decide +kernel
theorem dX9_ranked_19 : decode cX9_ranked 19 = .ok (.if_icmp .ne 5, 3) := by decide +kernel
theorem dX9_ranked_22 : decode cX9_ranked 22 = .ok (.iload_n 2, 1) := by decide +kernel
theorem dX9_ranked_23 : decode cX9_ranked 23 = .ok (.ireturn, 1) := by decide +kernel
theorem dX9_ranked_24 : decode cX9_ranked 24 = .ok (.iinc 2 1, 3) := by decide +kernel
theorem dX9_ranked_27 : decode cX9_ranked 27 = .ok (.goto (-25), 3) := by decide +kernel
theorem dX9_ranked_30 : decode cX9_ranked 30 = .ok (.iconst (-1), 1) := by decide +kernel
theorem dX9_ranked_31 : decode cX9_ranked 31 = .ok (.ireturn, 1) := by decide +kernel
theorem zm_X9_ranked : ZMv "ClassOfMany" yX9_ranked cX9_ranked 3 (some .int) 1 := ⟨kw_4_61, kw_4_59, kw_4_60, kw_1_1, by decide +kernel, by decide⟩
def zf_X9_ranked_L2 (M : ZMem) (n : Nat) (a1 : Int32) (K30 : Option (Int32)) : Nat → Int32 → Option (Int32)
  | 0, _ => none
  | n2 + 1, v23 =>
  zdy M 0 0 (7, 17) (fun o24 => (if (M o24 0) ≤ v23 then K30 else zb1 (zf_X9_rankOf n v23 M) (fun v25 => (if v25 = a1 then some v23 else (zf_X9_ranked_L2 M n a1 K30 n2 (v23 + (1 : Int32)))))))
def zf_X9_ranked (n : Nat) (a1 : Int32) (M : ZMem) : Option (Int32) :=
  (zf_X9_ranked_L2 M n a1 (some (-1 : Int32)) n (0 : Int32))
set_option maxHeartbeats 4000000 in
set_option maxRecDepth 100000 in
theorem zc_X9_ranked {l : Launch} {D : va_G} {ad : Nat → Nat} {cA : Nat → ClassId} {n : Nat} {a1 : Int32} {M : ZMem} {r : Int32} (hf : zf_X9_ranked n a1 M = some r) : ZCt l D ad cA yX9_ranked cX9_ranked 3 (some .int) 3 [.ref (ad 0), .int a1] M (some (.int r)) M := by
  refine zct (by decide +kernel) (Nat.le_of_ble_eq_true rfl) (lv := [(0, .ref (ad 0)), (1, .int a1)]) rfl (fun E hl hD had hcA hN hC hR => ?_)
  subst hl; subst hD; subst had; subst hcA
  unfold zf_X9_ranked at hf
  refine zw_iconst hC (v := (0 : Int32)) dX9_ranked_0 (by decide) ?_
  refine zw_istore_n hC (lv' := [(2, .int (0 : Int32)), (0, .ref (zad E 0)), (1, .int a1)]) dX9_ranked_1 rfl hN (by decide) rfl ?_
  have hL2 : ∀ (K30 : Option (Int32)), (K30 = some r → ZW E 30 [] [] M) → ∀ (n2 : Nat), ∀ (v23 : Int32), zf_X9_ranked_L2 M n a1 K30 n2 v23 = some r → ZW E 2 [(0, .ref (zad E 0)), (1, .int a1), (2, .int v23)] [] M := by
    intro K30 hK30
    intro n2
    induction n2 with
    | zero => intro v23 hf; rw [zf_X9_ranked_L2] at hf; cases hf
    | succ n2 ih2 =>
      intro v23 hf
      rw [zf_X9_ranked_L2] at hf
      refine zw_iload_n hC dX9_ranked_2 rfl 2 rfl ?_
      refine zw_aload_n hC dX9_ranked_3 rfl 0 rfl ?_
      refine zw_getd hC hf zF_ClassOfMany_told zk_0 dX9_ranked_4 kw_2_168 (fun o24 ho24 hf => ?_)
      refine zw_geti hC zF_Told_members ho24 dX9_ranked_7 kw_1_38 ?_
      refine zw_icmp_ge hC 30 hf dX9_ranked_10 (by decide) (fun hf => ?_) (fun hf => ?_)
      · exact zw_sub [] rfl (hK30 hf)
      · refine zw_aload_n hC dX9_ranked_13 rfl 0 rfl ?_
        refine zw_iload_n hC dX9_ranked_14 rfl 2 rfl ?_
        obtain ⟨v25, hc25, hf⟩ := zb1_some hf
        refine zw_cV hC [.int v23] [] (st1 := [.int v25]) zm_X9_rankOf (zc_X9_rankOf hc25) zk_0 rfl kw_4_62 dX9_ranked_15 rfl (by decide) (Nat.le_of_ble_eq_true rfl) rfl rfl ?_
        refine zw_iload_n hC dX9_ranked_18 rfl 1 rfl ?_
        refine zw_icmp_ne hC 24 hf dX9_ranked_19 (by decide) (fun hf => ?_) (fun hf => ?_)
        · refine zw_iinc hC (v := (1 : Int32)) (lv' := [(2, .int (v23 + (1 : Int32))), (0, .ref (zad E 0)), (1, .int a1)]) dX9_ranked_24 2 rfl (by decide) hN (by decide) rfl ?_
          refine zw_goto hC 2 dX9_ranked_27 (by decide) ?_
          exact zw_sub [1, 2, 0] rfl (ih2 (v23 + (1 : Int32)) hf)
        · refine zw_iload_n hC dX9_ranked_22 rfl 2 rfl ?_
          have h1 := Option.some.inj hf
          subst h1
          exact zw_iret hC hR dX9_ranked_23
  refine zw_sub [1, 2, 0] rfl (hL2 _ ?_ n (0 : Int32) hf)
  · intro  hf
    refine zw_iconst hC (v := (-1 : Int32)) dX9_ranked_30 (by decide) ?_
    have h1 := Option.some.inj hf
    subst h1
    exact zw_iret hC hR dX9_ranked_31
/-! ClassOfMany.together(II)I -/
theorem dX9_together_0 : decode cX9_together 0 = .ok (.aload_n 0, 1) := by decide +kernel
theorem dX9_together_1 : decode cX9_together 1 = .ok (.iload_n 1, 1) := by decide +kernel
theorem dX9_together_2 : decode cX9_together 2 = .ok (.iload_n 2, 1) := by decide +kernel
theorem dX9_together_3 : decode cX9_together 3 = .ok (.invokevirtual 183, 3) := by decide +kernel
theorem dX9_together_6 : decode cX9_together 6 = .ok (.ifCond .ne 5, 3) := by decide +kernel
theorem dX9_together_9 : decode cX9_together 9 = .ok (.iconst (-1), 1) := by decide +kernel
theorem dX9_together_10 : decode cX9_together 10 = .ok (.ireturn, 1) := by decide +kernel
theorem dX9_together_11 : decode cX9_together 11 = .ok (.aload_n 0, 1) := by decide +kernel
theorem dX9_together_12 : decode cX9_together 12 = .ok (.getfield 19, 3) := by decide +kernel
theorem dX9_together_15 : decode cX9_together 15 = .ok (.getfield 171, 3) := by decide +kernel
theorem dX9_together_18 : decode cX9_together 18 = .ok (.aload_n 0, 1) := by decide +kernel
theorem dX9_together_19 : decode cX9_together 19 = .ok (.getfield 12, 3) := by decide +kernel
theorem dX9_together_22 : decode cX9_together 22 = .ok (.getfield 200, 3) := by decide +kernel
theorem dX9_together_25 : decode cX9_together 25 = .ok (.iload_n 1, 1) := by decide +kernel
theorem dX9_together_26 : decode cX9_together 26 = .ok (.iaload, 1) := by decide +kernel
theorem dX9_together_27 : decode cX9_together 27 = .ok (.aload_n 0, 1) := by decide +kernel
theorem dX9_together_28 : decode cX9_together 28 = .ok (.getfield 12, 3) := by decide +kernel
theorem dX9_together_31 : decode cX9_together 31 = .ok (.getfield 200, 3) := by decide +kernel
theorem dX9_together_34 : decode cX9_together 34 = .ok (.iload_n 2, 1) := by decide +kernel
theorem dX9_together_35 : decode cX9_together 35 = .ok (.iaload, 1) := by decide +kernel
theorem dX9_together_36 : decode cX9_together 36 = .ok (.invokestatic 249, 3) := by decide +kernel
theorem dX9_together_39 : decode cX9_together 39 = .ok (.invokestatic 249, 3) := by decide +kernel
theorem dX9_together_42 : decode cX9_together 42 = .ok (.istore_n 3, 1) := by decide +kernel
theorem dX9_together_43 : decode cX9_together 43 = .ok (.aload_n 0, 1) := by decide +kernel
theorem dX9_together_44 : decode cX9_together 44 = .ok (.getfield 19, 3) := by decide +kernel
theorem dX9_together_47 : decode cX9_together 47 = .ok (.getfield 174, 3) := by decide +kernel
theorem dX9_together_50 : decode cX9_together 50 = .ok (.aload_n 0, 1) := by decide +kernel
theorem dX9_together_51 : decode cX9_together 51 = .ok (.getfield 12, 3) := by decide +kernel
theorem dX9_together_54 : decode cX9_together 54 = .ok (.getfield 203, 3) := by decide +kernel
theorem dX9_together_57 : decode cX9_together 57 = .ok (.iload_n 1, 1) := by decide +kernel
theorem dX9_together_58 : decode cX9_together 58 = .ok (.iaload, 1) := by decide +kernel
theorem dX9_together_59 : decode cX9_together 59 = .ok (.aload_n 0, 1) := by decide +kernel
theorem dX9_together_60 : decode cX9_together 60 = .ok (.getfield 12, 3) := by decide +kernel
theorem dX9_together_63 : decode cX9_together 63 = .ok (.getfield 203, 3) := by decide +kernel
theorem dX9_together_66 : decode cX9_together 66 = .ok (.iload_n 2, 1) := by decide +kernel
theorem dX9_together_67 : decode cX9_together 67 = .ok (.iaload, 1) := by decide +kernel
theorem dX9_together_68 : decode cX9_together 68 = .ok (.invokestatic 254, 3) := by decide +kernel
theorem dX9_together_71 : decode cX9_together 71 = .ok (.invokestatic 254, 3) := by decide +kernel
theorem dX9_together_74 : decode cX9_together 74 = .ok (.istore 4, 2) := by decide +kernel
theorem dX9_together_76 : decode cX9_together 76 = .ok (.iconst 0, 1) := by decide +kernel
theorem dX9_together_77 : decode cX9_together 77 = .ok (.iload 4, 2) := by decide +kernel
theorem dX9_together_79 : decode cX9_together 79 = .ok (.iload_n 3, 1) := by decide +kernel
theorem dX9_together_80 : decode cX9_together 80 = .ok (.isub, 1) := by decide +kernel
theorem dX9_together_81 : decode cX9_together 81 = .ok (.iconst 1, 1) := by decide +kernel
theorem dX9_together_82 : decode cX9_together 82 = .ok (.iadd, 1) := by decide +kernel
theorem dX9_together_83 : decode cX9_together 83 = .ok (.invokestatic 249, 3) := by decide +kernel
theorem dX9_together_86 : decode cX9_together 86 = .ok (.ireturn, 1) := by decide +kernel
theorem zm_X9_together : ZMv "ClassOfMany" yX9_together cX9_together 5 (some .int) 2 := ⟨kw_4_69, kw_4_67, kw_4_68, kw_1_1, by decide +kernel, by decide⟩
def zf_X9_together (a1 : Int32) (a2 : Int32) (M : ZMem) : Option (Int32) :=
  zb1 (zf_X9_arePair a1 a2 M) (fun v30 => (if v30 = 0 then some (-1 : Int32) else zdy M 0 0 (7, 17) (fun o31 => zrd M (o31 + 1) 10 a1 (fun v32 => zdy M 0 0 (7, 17) (fun o33 => zrd M (o33 + 1) 10 a2 (fun v34 => zdy M 0 0 (7, 17) (fun o35 => zrd M (o35 + 2) 10 a1 (fun v36 => zdy M 0 0 (7, 17) (fun o37 => zrd M (o37 + 2) 10 a2 (fun v38 => some (zmax (0 : Int32) (((zmin (M 12 10) (zmin v36 v38)) - (zmax (M 12 9) (zmax v32 v34))) + (1 : Int32)))))))))))))
set_option maxHeartbeats 4000000 in
set_option maxRecDepth 100000 in
theorem zc_X9_together {l : Launch} {D : va_G} {ad : Nat → Nat} {cA : Nat → ClassId} {a1 : Int32} {a2 : Int32} {M : ZMem} {r : Int32} (hf : zf_X9_together a1 a2 M = some r) : ZCt l D ad cA yX9_together cX9_together 5 (some .int) 3 [.ref (ad 0), .int a1, .int a2] M (some (.int r)) M := by
  refine zct (by decide +kernel) (Nat.le_of_ble_eq_true rfl) (lv := [(0, .ref (ad 0)), (1, .int a1), (2, .int a2)]) rfl (fun E hl hD had hcA hN hC hR => ?_)
  subst hl; subst hD; subst had; subst hcA
  unfold zf_X9_together at hf
  refine zw_aload_n hC dX9_together_0 rfl 0 rfl ?_
  refine zw_iload_n hC dX9_together_1 rfl 1 rfl ?_
  refine zw_iload_n hC dX9_together_2 rfl 2 rfl ?_
  obtain ⟨v30, hc30, hf⟩ := zb1_some hf
  refine zw_cV hC [.int a1, .int a2] [] (st1 := [.int v30]) zm_X9_arePair (zc_X9_arePair hc30) zk_0 rfl kw_4_26 dX9_together_3 rfl (by decide) (Nat.le_of_ble_eq_true rfl) rfl rfl ?_
  refine zw_if_ne hC 11 hf dX9_together_6 (by decide) (fun hf => ?_) (fun hf => ?_)
  · refine zw_aload_n hC dX9_together_11 rfl 0 rfl ?_
    refine zw_getr (k' := 12) hC zF_ClassOfMany_now zk_0 rfl dX9_together_12 kw_2_169 ?_
    refine zw_geti hC zF_Standing_periodFrom zk_12 dX9_together_15 kw_1_164 ?_
    refine zw_aload_n hC dX9_together_18 rfl 0 rfl ?_
    refine zw_getd hC hf zF_ClassOfMany_told zk_0 dX9_together_19 kw_2_168 (fun o31 ho31 hf => ?_)
    refine zw_getr (k' := (o31 + 1)) hC zF_Told_from ho31 rfl dX9_together_22 kw_1_48 ?_
    refine zw_iload_n hC dX9_together_25 rfl 1 rfl ?_
    refine zw_iald hC hf (zko_7_1 ho31) dX9_together_26 (fun v32 hf => ?_)
    refine zw_aload_n hC dX9_together_27 rfl 0 rfl ?_
    refine zw_getd hC hf zF_ClassOfMany_told zk_0 dX9_together_28 kw_2_168 (fun o33 ho33 hf => ?_)
    refine zw_getr (k' := (o33 + 1)) hC zF_Told_from ho33 rfl dX9_together_31 kw_1_48 ?_
    refine zw_iload_n hC dX9_together_34 rfl 2 rfl ?_
    refine zw_iald hC hf (zko_7_1 ho33) dX9_together_35 (fun v34 hf => ?_)
    refine zw_mmax hC (by decide) (Nat.le_of_ble_eq_true rfl) dX9_together_36 kw_4_70 kw_4_19 kw_1_18 kw_4_20 ?_
    refine zw_mmax hC (by decide) (Nat.le_of_ble_eq_true rfl) dX9_together_39 kw_4_70 kw_4_19 kw_1_18 kw_4_20 ?_
    refine zw_istore_n hC (lv' := [(3, .int (zmax (M 12 9) (zmax v32 v34))), (0, .ref (zad E 0)), (1, .int a1), (2, .int a2)]) dX9_together_42 rfl hN (by decide) rfl ?_
    refine zw_aload_n hC dX9_together_43 rfl 1 rfl ?_
    refine zw_getr (k' := 12) hC zF_ClassOfMany_now zk_0 rfl dX9_together_44 kw_2_169 ?_
    refine zw_geti hC zF_Standing_periodTo zk_12 dX9_together_47 kw_1_167 ?_
    refine zw_aload_n hC dX9_together_50 rfl 1 rfl ?_
    refine zw_getd hC hf zF_ClassOfMany_told zk_0 dX9_together_51 kw_2_168 (fun o35 ho35 hf => ?_)
    refine zw_getr (k' := (o35 + 2)) hC zF_Told_to ho35 rfl dX9_together_54 kw_1_52 ?_
    refine zw_iload_n hC dX9_together_57 rfl 2 rfl ?_
    refine zw_iald hC hf (zko_7_2 ho35) dX9_together_58 (fun v36 hf => ?_)
    refine zw_aload_n hC dX9_together_59 rfl 1 rfl ?_
    refine zw_getd hC hf zF_ClassOfMany_told zk_0 dX9_together_60 kw_2_168 (fun o37 ho37 hf => ?_)
    refine zw_getr (k' := (o37 + 2)) hC zF_Told_to ho37 rfl dX9_together_63 kw_1_52 ?_
    refine zw_iload_n hC dX9_together_66 rfl 3 rfl ?_
    refine zw_iald hC hf (zko_7_2 ho37) dX9_together_67 (fun v38 hf => ?_)
    refine zw_mmin hC (by decide) (Nat.le_of_ble_eq_true rfl) dX9_together_68 kw_4_71 kw_3_163 kw_1_18 kw_3_164 ?_
    refine zw_mmin hC (by decide) (Nat.le_of_ble_eq_true rfl) dX9_together_71 kw_4_71 kw_3_163 kw_1_18 kw_3_164 ?_
    refine zw_istore hC (lv' := [(4, .int (zmin (M 12 10) (zmin v36 v38))), (3, .int (zmax (M 12 9) (zmax v32 v34))), (0, .ref (zad E 0)), (1, .int a1), (2, .int a2)]) dX9_together_74 hN (by decide) rfl ?_
    refine zw_iconst hC (v := (0 : Int32)) dX9_together_76 (by decide) ?_
    refine zw_iload hC dX9_together_77 0 rfl ?_
    refine zw_iload_n hC dX9_together_79 rfl 1 rfl ?_
    refine zw_isub hC dX9_together_80 ?_
    refine zw_iconst hC (v := (1 : Int32)) dX9_together_81 (by decide) ?_
    refine zw_iadd hC dX9_together_82 ?_
    refine zw_mmax hC (by decide) (Nat.le_of_ble_eq_true rfl) dX9_together_83 kw_4_70 kw_4_19 kw_1_18 kw_4_20 ?_
    have h1 := Option.some.inj hf
    subst h1
    exact zw_iret hC hR dX9_together_86
  · refine zw_iconst hC (v := (-1 : Int32)) dX9_together_9 (by decide) ?_
    have h1 := Option.some.inj hf
    subst h1
    exact zw_iret hC hR dX9_together_10
/-! ClassOfMany.claimantsOn(I)I -/
theorem dX9_claimantsOn_0 : decode cX9_claimantsOn 0 = .ok (.iconst 0, 1) := by decide +kernel
theorem dX9_claimantsOn_1 : decode cX9_claimantsOn 1 = .ok (.istore_n 2, 1) := by decide +kernel
theorem dX9_claimantsOn_2 : decode cX9_claimantsOn 2 = .ok (.iconst 0, 1) := by decide +kernel
theorem dX9_claimantsOn_3 : decode cX9_claimantsOn 3 = .ok (.istore_n 3, 1) := by decide +kernel
theorem dX9_claimantsOn_4 : decode cX9_claimantsOn 4 = .ok (.iload_n 3, 1) := by decide +kernel
theorem dX9_claimantsOn_5 : decode cX9_claimantsOn 5 = .ok (.aload_n 0, 1) := by decide +kernel
theorem dX9_claimantsOn_6 : decode cX9_claimantsOn 6 = .ok (.getfield 12, 3) := by decide +kernel
theorem dX9_claimantsOn_9 : decode cX9_claimantsOn 9 = .ok (.getfield 92, 3) := by decide +kernel
theorem dX9_claimantsOn_12 : decode cX9_claimantsOn 12 = .ok (.if_icmp .ge 38, 3) := by decide +kernel
theorem dX9_claimantsOn_15 : decode cX9_claimantsOn 15 = .ok (.aload_n 0, 1) := by decide +kernel
theorem dX9_claimantsOn_16 : decode cX9_claimantsOn 16 = .ok (.getfield 12, 3) := by decide +kernel
theorem dX9_claimantsOn_19 : decode cX9_claimantsOn 19 = .ok (.getfield 200, 3) := by decide +kernel
theorem dX9_claimantsOn_22 : decode cX9_claimantsOn 22 = .ok (.iload_n 3, 1) := by decide +kernel
theorem dX9_claimantsOn_23 : decode cX9_claimantsOn 23 = .ok (.iaload, 1) := by decide +kernel
theorem dX9_claimantsOn_24 : decode cX9_claimantsOn 24 = .ok (.iload_n 1, 1) := by decide +kernel
theorem dX9_claimantsOn_25 : decode cX9_claimantsOn 25 = .ok (.if_icmp .gt 19, 3) := by decide +kernel
theorem dX9_claimantsOn_28 : decode cX9_claimantsOn 28 = .ok (.iload_n 1, 1) := by decide +kernel
theorem dX9_claimantsOn_29 : decode cX9_claimantsOn 29 = .ok (.aload_n 0, 1) := by decide +kernel
theorem dX9_claimantsOn_30 : decode cX9_claimantsOn 30 = .ok (.getfield 12, 3) := by decide +kernel
theorem dX9_claimantsOn_33 : decode cX9_claimantsOn 33 = .ok (.getfield 203, 3) := by decide +kernel
theorem dX9_claimantsOn_36 : decode cX9_claimantsOn 36 = .ok (.iload_n 3, 1) := by decide +kernel
theorem dX9_claimantsOn_37 : decode cX9_claimantsOn 37 = .ok (.iaload, 1) := by decide +kernel
theorem dX9_claimantsOn_38 : decode cX9_claimantsOn 38 = .ok (.if_icmp .gt 6, 3) := by decide +kernel
theorem dX9_claimantsOn_41 : decode cX9_claimantsOn 41 = .ok (.iinc 2 1, 3) := by decide +kernel
theorem dX9_claimantsOn_44 : decode cX9_claimantsOn 44 = .ok (.iinc 3 1, 3) := by decide +kernel
theorem dX9_claimantsOn_47 : decode cX9_claimantsOn 47 = .ok (.goto (-43), 3) := by decide +kernel
theorem dX9_claimantsOn_50 : decode cX9_claimantsOn 50 = .ok (.iload_n 2, 1) := by decide +kernel
theorem dX9_claimantsOn_51 : decode cX9_claimantsOn 51 = .ok (.ireturn, 1) := by decide +kernel
theorem zm_X9_claimantsOn : ZMv "ClassOfMany" yX9_claimantsOn cX9_claimantsOn 4 (some .int) 1 := ⟨kw_4_79, kw_4_78, kp_26, kw_1_1, by decide +kernel, by decide⟩
def zf_X9_claimantsOn_j44 (R4 : Int32 → Int32 → Option (Int32)) (v27 : Int32) (v32 : Int32) : Option (Int32) :=
  (R4 v32 (v27 + (1 : Int32)))
def zf_X9_claimantsOn_L4 (M : ZMem) (a1 : Int32) (K50 : Int32 → Option (Int32)) : Nat → Int32 → Int32 → Option (Int32)
  | 0, _, _ => none
  | n4 + 1, v26, v27 =>
  zdy M 0 0 (7, 17) (fun o29 => (if (M o29 0) ≤ v27 then (K50 v26) else zdy M 0 0 (7, 17) (fun o30 => zrd M (o30 + 1) 10 v27 (fun v31 => (if a1 < v31 then (zf_X9_claimantsOn_j44 (fun x0 x1 => zf_X9_claimantsOn_L4 M a1 K50 n4 x0 x1) v27 v26) else zdy M 0 0 (7, 17) (fun o33 => zrd M (o33 + 2) 10 v27 (fun v34 => (if v34 < a1 then (zf_X9_claimantsOn_j44 (fun x0 x1 => zf_X9_claimantsOn_L4 M a1 K50 n4 x0 x1) v27 v26) else (zf_X9_claimantsOn_j44 (fun x0 x1 => zf_X9_claimantsOn_L4 M a1 K50 n4 x0 x1) v27 (v26 + (1 : Int32)))))))))))
def zf_X9_claimantsOn (n : Nat) (a1 : Int32) (M : ZMem) : Option (Int32) :=
  (zf_X9_claimantsOn_L4 M a1 (fun v35 => some v35) n (0 : Int32) (0 : Int32))
set_option maxHeartbeats 4000000 in
set_option maxRecDepth 100000 in
theorem zc_X9_claimantsOn {l : Launch} {D : va_G} {ad : Nat → Nat} {cA : Nat → ClassId} {n : Nat} {a1 : Int32} {M : ZMem} {r : Int32} (hf : zf_X9_claimantsOn n a1 M = some r) : ZCt l D ad cA yX9_claimantsOn cX9_claimantsOn 4 (some .int) 1 [.ref (ad 0), .int a1] M (some (.int r)) M := by
  refine zct (by decide +kernel) (Nat.le_of_ble_eq_true rfl) (lv := [(0, .ref (ad 0)), (1, .int a1)]) rfl (fun E hl hD had hcA hN hC hR => ?_)
  subst hl; subst hD; subst had; subst hcA
  unfold zf_X9_claimantsOn at hf
  refine zw_iconst hC (v := (0 : Int32)) dX9_claimantsOn_0 (by decide) ?_
  refine zw_istore_n hC (lv' := [(2, .int (0 : Int32)), (0, .ref (zad E 0)), (1, .int a1)]) dX9_claimantsOn_1 rfl hN (by decide) rfl ?_
  refine zw_iconst hC (v := (0 : Int32)) dX9_claimantsOn_2 (by decide) ?_
  refine zw_istore_n hC (lv' := [(3, .int (0 : Int32)), (2, .int (0 : Int32)), (0, .ref (zad E 0)), (1, .int a1)]) dX9_claimantsOn_3 rfl hN (by decide) rfl ?_
  have hL4 : ∀ (K50 : Int32 → Option (Int32)), (∀ (v28 : Int32), K50 v28 = some r → ZW E 50 [(2, .int v28)] [] M) → ∀ (n4 : Nat), ∀ (v26 : Int32), ∀ (v27 : Int32), zf_X9_claimantsOn_L4 M a1 K50 n4 v26 v27 = some r → ZW E 4 [(0, .ref (zad E 0)), (1, .int a1), (2, .int v26), (3, .int v27)] [] M := by
    intro K50 hK50
    intro n4
    induction n4 with
    | zero => intro v26 v27 hf; rw [zf_X9_claimantsOn_L4] at hf; cases hf
    | succ n4 ih4 =>
      intro v26 v27 hf
      rw [zf_X9_claimantsOn_L4] at hf
      refine zw_iload_n hC dX9_claimantsOn_4 rfl 3 rfl ?_
      refine zw_aload_n hC dX9_claimantsOn_5 rfl 0 rfl ?_
      refine zw_getd hC hf zF_ClassOfMany_told zk_0 dX9_claimantsOn_6 kw_2_168 (fun o29 ho29 hf => ?_)
      refine zw_geti hC zF_Told_members ho29 dX9_claimantsOn_9 kw_1_38 ?_
      refine zw_icmp_ge hC 50 hf dX9_claimantsOn_12 (by decide) (fun hf => ?_) (fun hf => ?_)
      · exact zw_sub [2] rfl (hK50 v26 hf)
      · refine zw_aload_n hC dX9_claimantsOn_15 rfl 0 rfl ?_
        refine zw_getd hC hf zF_ClassOfMany_told zk_0 dX9_claimantsOn_16 kw_2_168 (fun o30 ho30 hf => ?_)
        refine zw_getr (k' := (o30 + 1)) hC zF_Told_from ho30 rfl dX9_claimantsOn_19 kw_1_48 ?_
        refine zw_iload_n hC dX9_claimantsOn_22 rfl 3 rfl ?_
        refine zw_iald hC hf (zko_7_1 ho30) dX9_claimantsOn_23 (fun v31 hf => ?_)
        refine zw_iload_n hC dX9_claimantsOn_24 rfl 1 rfl ?_
        have hj44 : ∀ (v32 : Int32), zf_X9_claimantsOn_j44 (fun x0 x1 => zf_X9_claimantsOn_L4 M a1 K50 n4 x0 x1) v27 v32 = some r → ZW E 44 [(0, .ref (zad E 0)), (1, .int a1), (2, .int v32), (3, .int v27)] [] M := by
          intro v32 hf
          unfold zf_X9_claimantsOn_j44 at hf
          refine zw_iinc hC (v := (1 : Int32)) (lv' := [(3, .int (v27 + (1 : Int32))), (0, .ref (zad E 0)), (1, .int a1), (2, .int v32)]) dX9_claimantsOn_44 3 rfl (by decide) hN (by decide) rfl ?_
          refine zw_goto hC 4 dX9_claimantsOn_47 (by decide) ?_
          exact zw_sub [1, 2, 3, 0] rfl (ih4 v32 (v27 + (1 : Int32)) hf)
        refine zw_icmp_gt hC 44 hf dX9_claimantsOn_25 (by decide) (fun hf => ?_) (fun hf => ?_)
        · exact hj44 v26 hf
        · refine zw_iload_n hC dX9_claimantsOn_28 rfl 1 rfl ?_
          refine zw_aload_n hC dX9_claimantsOn_29 rfl 0 rfl ?_
          refine zw_getd hC hf zF_ClassOfMany_told zk_0 dX9_claimantsOn_30 kw_2_168 (fun o33 ho33 hf => ?_)
          refine zw_getr (k' := (o33 + 2)) hC zF_Told_to ho33 rfl dX9_claimantsOn_33 kw_1_52 ?_
          refine zw_iload_n hC dX9_claimantsOn_36 rfl 3 rfl ?_
          refine zw_iald hC hf (zko_7_2 ho33) dX9_claimantsOn_37 (fun v34 hf => ?_)
          refine zw_icmp_gt hC 44 hf dX9_claimantsOn_38 (by decide) (fun hf => ?_) (fun hf => ?_)
          · exact hj44 v26 hf
          · refine zw_iinc hC (v := (1 : Int32)) (lv' := [(2, .int (v26 + (1 : Int32))), (0, .ref (zad E 0)), (1, .int a1), (3, .int v27)]) dX9_claimantsOn_41 2 rfl (by decide) hN (by decide) rfl ?_
            exact zw_sub [1, 2, 0, 3] rfl (hj44 (v26 + (1 : Int32)) hf)
  refine zw_sub [2, 3, 1, 0] rfl (hL4 _ ?_ n (0 : Int32) (0 : Int32) hf)
  · intro v35 hf
    refine zw_iload_n hC dX9_claimantsOn_50 rfl 0 rfl ?_
    have h1 := Option.some.inj hf
    subst h1
    exact zw_iret hC hR dX9_claimantsOn_51
