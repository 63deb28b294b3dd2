/-! ClassOfManyModel.costs()I -/
theorem dX10_costs_0 : decode cX10_costs 0 = .ok (.aload_n 0, 1) := by decide +kernel
theorem dX10_costs_1 : decode cX10_costs 1 = .ok (.getfield 7, 3) := by decide +kernel
theorem dX10_costs_4 : decode cX10_costs 4 = .ok (.bipush 11, 2) := by decide +kernel
theorem dX10_costs_6 : decode cX10_costs 6 = .ok (.iaload, 1) := by decide +kernel
theorem dX10_costs_7 : decode cX10_costs 7 = .ok (.ifCond .ge 7, 3) := by decide +kernel
theorem dX10_costs_10 : decode cX10_costs 10 = .ok (.iconst 0, 1) := by decide +kernel
theorem dX10_costs_11 : decode cX10_costs 11 = .ok (.goto 14, 3) := by decide +kernel
theorem dX10_costs_14 : decode cX10_costs 14 = .ok (.aload_n 0, 1) := by decide +kernel
theorem dX10_costs_15 : decode cX10_costs 15 = .ok (.aload_n 0, 1) := by decide +kernel
theorem dX10_costs_16 : decode cX10_costs 16 = .ok (.getfield 7, 3) := by decide +kernel
theorem dX10_costs_19 : decode cX10_costs 19 = .ok (.bipush 10, 2) := by decide +kernel
theorem dX10_costs_21 : decode cX10_costs 21 = .ok (.iaload, 1) := by decide +kernel
theorem dX10_costs_22 : decode cX10_costs 22 = .ok (.invokevirtual 197, 3) := by decide +kernel
theorem dX10_costs_25 : decode cX10_costs 25 = .ok (.ireturn, 1) := by decide +kernel
theorem zm_X10_costs : ZMv "ClassOfManyModel" yX10_costs cX10_costs 1 (some .int) 0 := ⟨kw_6_236, kw_6_235, kp_81, kw_1_10, by decide +kernel, by decide⟩
def zf_X10_costs_j25 (v25 : Int32) : Option (Int32) :=
  some v25
def zf_X10_costs (n : Nat) (M : ZMem) : Option (Int32) :=
  zrd M 78 73 (11 : Int32) (fun v24 => (if 0 ≤ v24 then zrd M 78 73 (10 : Int32) (fun v26 => zb1 (zf_X10_costsFor n v26 M) (fun v27 => (zf_X10_costs_j25 v27))) else (zf_X10_costs_j25 (0 : Int32))))
set_option maxHeartbeats 4000000 in
set_option maxRecDepth 100000 in
theorem zc_X10_costs {l : Launch} {D : va_G} {ad : Nat → Nat} {cA : Nat → ClassId} {n : Nat} {M : ZMem} {r : Int32} (hf : zf_X10_costs n M = some r) : ZCt l D ad cA yX10_costs cX10_costs 1 (some .int) 3 [.ref (ad 77)] M (some (.int r)) M := by
  refine zct (by decide +kernel) (Nat.le_of_ble_eq_true rfl) (lv := [(0, .ref (ad 77))]) rfl (fun E hl hD had hcA hN hC hR => ?_)
  subst hl; subst hD; subst had; subst hcA
  unfold zf_X10_costs at hf
  refine zw_aload_n hC dX10_costs_0 rfl 0 rfl ?_
  refine zw_getr (k' := 78) hC zF_Model_now zk_77 rfl dX10_costs_1 kw_5_227 ?_
  refine zw_bipush hC (v := (11 : Int32)) dX10_costs_4 (by decide) ?_
  refine zw_iald hC hf zk_78 dX10_costs_6 (fun v24 hf => ?_)
  have hj25 : ∀ (v25 : Int32), zf_X10_costs_j25 v25 = some r → ZW E 25 [] [.int v25] M := by
    intro v25 hf
    unfold zf_X10_costs_j25 at hf
    have h1 := Option.some.inj hf
    subst h1
    exact zw_iret hC hR dX10_costs_25
  refine zw_if_ge hC 14 hf dX10_costs_7 (by decide) (fun hf => ?_) (fun hf => ?_)
  · refine zw_aload_n hC dX10_costs_14 rfl 0 rfl ?_
    refine zw_aload_n hC dX10_costs_15 rfl 0 rfl ?_
    refine zw_getr (k' := 78) hC zF_Model_now zk_77 rfl dX10_costs_16 kw_5_227 ?_
    refine zw_bipush hC (v := (10 : Int32)) dX10_costs_19 (by decide) ?_
    refine zw_iald hC hf zk_78 dX10_costs_21 (fun v26 hf => ?_)
    obtain ⟨v27, hc27, hf⟩ := zb1_some hf
    refine zw_cV hC [.int v26] [] (st1 := [.int v27]) zm_X10_costsFor (zc_X10_costsFor hc27) zk_77 rfl kw_6_237 dX10_costs_22 rfl (by decide) (Nat.le_of_ble_eq_true rfl) rfl rfl ?_
    exact zw_sub [] rfl (hj25 v27 hf)
  · refine zw_iconst hC (v := (0 : Int32)) dX10_costs_10 (by decide) ?_
    refine zw_goto hC 25 dX10_costs_11 (by decide) ?_
    exact zw_sub [] rfl (hj25 (0 : Int32) hf)
/-! ClassOfManyModel.reachedOn(I)I -/
theorem dX10_reachedOn_0 : decode cX10_reachedOn 0 = .ok (.aload_n 0, 1) := by decide +kernel
theorem dX10_reachedOn_1 : decode cX10_reachedOn 1 = .ok (.getfield 7, 3) := by decide +kernel
theorem dX10_reachedOn_4 : decode cX10_reachedOn 4 = .ok (.bipush 11, 2) := by decide +kernel
theorem dX10_reachedOn_6 : decode cX10_reachedOn 6 = .ok (.iaload, 1) := by decide +kernel
theorem dX10_reachedOn_7 : decode cX10_reachedOn 7 = .ok (.ifCond .ge 8, 3) := by decide +kernel
theorem dX10_reachedOn_10 : decode cX10_reachedOn 10 = .ok (.bipush (-2), 2) := by decide +kernel
theorem dX10_reachedOn_12 : decode cX10_reachedOn 12 = .ok (.goto 15, 3) := by decide +kernel
theorem dX10_reachedOn_15 : decode cX10_reachedOn 15 = .ok (.aload_n 0, 1) := by decide +kernel
theorem dX10_reachedOn_16 : decode cX10_reachedOn 16 = .ok (.aload_n 0, 1) := by decide +kernel
theorem dX10_reachedOn_17 : decode cX10_reachedOn 17 = .ok (.getfield 7, 3) := by decide +kernel
theorem dX10_reachedOn_20 : decode cX10_reachedOn 20 = .ok (.bipush 10, 2) := by decide +kernel
theorem dX10_reachedOn_22 : decode cX10_reachedOn 22 = .ok (.iaload, 1) := by decide +kernel
theorem dX10_reachedOn_23 : decode cX10_reachedOn 23 = .ok (.iload_n 1, 1) := by decide +kernel
theorem dX10_reachedOn_24 : decode cX10_reachedOn 24 = .ok (.invokevirtual 201, 3) := by decide +kernel
theorem dX10_reachedOn_27 : decode cX10_reachedOn 27 = .ok (.istore_n 2, 1) := by decide +kernel
theorem dX10_reachedOn_28 : decode cX10_reachedOn 28 = .ok (.iload_n 2, 1) := by decide +kernel
theorem dX10_reachedOn_29 : decode cX10_reachedOn 29 = .ok (.ifCond .ge 8, 3) := by decide +kernel
theorem dX10_reachedOn_32 : decode cX10_reachedOn 32 = .ok (.bipush (-2), 2) := by decide +kernel
theorem dX10_reachedOn_34 : decode cX10_reachedOn 34 = .ok (.goto 12, 3) := by decide +kernel
theorem dX10_reachedOn_37 : decode cX10_reachedOn 37 = .ok (.aload_n 0, 1) := by decide +kernel
theorem dX10_reachedOn_38 : decode cX10_reachedOn 38 = .ok (.getfield 7, 3) := by decide +kernel
theorem dX10_reachedOn_41 : decode cX10_reachedOn 41 = .ok (.bipush 11, 2) := by decide +kernel
theorem dX10_reachedOn_43 : decode cX10_reachedOn 43 = .ok (.iaload, 1) := by decide +kernel
theorem dX10_reachedOn_44 : decode cX10_reachedOn 44 = .ok (.iload_n 2, 1) := by decide +kernel
theorem dX10_reachedOn_45 : decode cX10_reachedOn 45 = .ok (.iadd, 1) := by decide +kernel
theorem dX10_reachedOn_46 : decode cX10_reachedOn 46 = .ok (.ireturn, 1) := by decide +kernel
theorem zm_X10_reachedOn : ZMv "ClassOfManyModel" yX10_reachedOn cX10_reachedOn 3 (some .int) 1 := ⟨kw_7_16, kw_7_15, kp_85, kw_1_10, by decide +kernel, by decide⟩
def zf_X10_reachedOn_j46 (v27 : Int32) : Option (Int32) :=
  some v27
def zf_X10_reachedOn_j27 (M : ZMem) (v26 : Int32) : Option (Int32) :=
  (if 0 ≤ v26 then zrd M 78 73 (11 : Int32) (fun v28 => (zf_X10_reachedOn_j46 (v28 + v26))) else (zf_X10_reachedOn_j46 (-2 : Int32)))
def zf_X10_reachedOn (n : Nat) (a1 : Int32) (M : ZMem) : Option (Int32) :=
  zrd M 78 73 (11 : Int32) (fun v25 => (if 0 ≤ v25 then zrd M 78 73 (10 : Int32) (fun v29 => zb1 (zf_X10_waitFor n v29 a1 M) (fun v30 => (zf_X10_reachedOn_j27 M v30))) else (zf_X10_reachedOn_j27 M (-2 : Int32))))
set_option maxHeartbeats 4000000 in
set_option maxRecDepth 100000 in
theorem zc_X10_reachedOn {l : Launch} {D : va_G} {ad : Nat → Nat} {cA : Nat → ClassId} {n : Nat} {a1 : Int32} {M : ZMem} {r : Int32} (hf : zf_X10_reachedOn n a1 M = some r) : ZCt l D ad cA yX10_reachedOn cX10_reachedOn 3 (some .int) 3 [.ref (ad 77), .int a1] M (some (.int r)) M := by
  refine zct (by decide +kernel) (Nat.le_of_ble_eq_true rfl) (lv := [(0, .ref (ad 77)), (1, .int a1)]) rfl (fun E hl hD had hcA hN hC hR => ?_)
  subst hl; subst hD; subst had; subst hcA
  unfold zf_X10_reachedOn at hf
  refine zw_aload_n hC dX10_reachedOn_0 rfl 0 rfl ?_
  refine zw_getr (k' := 78) hC zF_Model_now zk_77 rfl dX10_reachedOn_1 kw_5_227 ?_
  refine zw_bipush hC (v := (11 : Int32)) dX10_reachedOn_4 (by decide) ?_
  refine zw_iald hC hf zk_78 dX10_reachedOn_6 (fun v25 hf => ?_)
  have hj27 : ∀ (v26 : Int32), zf_X10_reachedOn_j27 M v26 = some r → ZW E 27 [(0, .ref (zad E 77))] [.int v26] M := by
    intro v26 hf
    unfold zf_X10_reachedOn_j27 at hf
    refine zw_istore_n hC (lv' := [(2, .int v26), (0, .ref (zad E 77))]) dX10_reachedOn_27 rfl hN (by decide) rfl ?_
    refine zw_iload_n hC dX10_reachedOn_28 rfl 0 rfl ?_
    have hj46 : ∀ (v27 : Int32), zf_X10_reachedOn_j46 v27 = some r → ZW E 46 [] [.int v27] M := by
      intro v27 hf
      unfold zf_X10_reachedOn_j46 at hf
      have h1 := Option.some.inj hf
      subst h1
      exact zw_iret hC hR dX10_reachedOn_46
    refine zw_if_ge hC 37 hf dX10_reachedOn_29 (by decide) (fun hf => ?_) (fun hf => ?_)
    · refine zw_aload_n hC dX10_reachedOn_37 rfl 1 rfl ?_
      refine zw_getr (k' := 78) hC zF_Model_now zk_77 rfl dX10_reachedOn_38 kw_5_227 ?_
      refine zw_bipush hC (v := (11 : Int32)) dX10_reachedOn_41 (by decide) ?_
      refine zw_iald hC hf zk_78 dX10_reachedOn_43 (fun v28 hf => ?_)
      refine zw_iload_n hC dX10_reachedOn_44 rfl 0 rfl ?_
      refine zw_iadd hC dX10_reachedOn_45 ?_
      exact zw_sub [] rfl (hj46 (v28 + v26) hf)
    · refine zw_bipush hC (v := (-2 : Int32)) dX10_reachedOn_32 (by decide) ?_
      refine zw_goto hC 46 dX10_reachedOn_34 (by decide) ?_
      exact zw_sub [] rfl (hj46 (-2 : Int32) hf)
  refine zw_if_ge hC 15 hf dX10_reachedOn_7 (by decide) (fun hf => ?_) (fun hf => ?_)
  · refine zw_aload_n hC dX10_reachedOn_15 rfl 0 rfl ?_
    refine zw_aload_n hC dX10_reachedOn_16 rfl 0 rfl ?_
    refine zw_getr (k' := 78) hC zF_Model_now zk_77 rfl dX10_reachedOn_17 kw_5_227 ?_
    refine zw_bipush hC (v := (10 : Int32)) dX10_reachedOn_20 (by decide) ?_
    refine zw_iald hC hf zk_78 dX10_reachedOn_22 (fun v29 hf => ?_)
    refine zw_iload_n hC dX10_reachedOn_23 rfl 1 rfl ?_
    obtain ⟨v30, hc30, hf⟩ := zb1_some hf
    refine zw_cV hC [.int v29, .int a1] [] (st1 := [.int v30]) zm_X10_waitFor (zc_X10_waitFor hc30) zk_77 rfl kw_7_17 dX10_reachedOn_24 rfl (by decide) (Nat.le_of_ble_eq_true rfl) rfl rfl ?_
    exact zw_sub [0] rfl (hj27 v30 hf)
  · refine zw_bipush hC (v := (-2 : Int32)) dX10_reachedOn_10 (by decide) ?_
    refine zw_goto hC 27 dX10_reachedOn_12 (by decide) ?_
    exact zw_sub [0] rfl (hj27 (-2 : Int32) hf)
/-! ClassOfManyModel.isReached(I)Z -/
theorem dX10_isReached_0 : decode cX10_isReached 0 = .ok (.aload_n 0, 1) := by decide +kernel
theorem dX10_isReached_1 : decode cX10_isReached 1 = .ok (.iload_n 1, 1) := by decide +kernel
theorem dX10_isReached_2 : decode cX10_isReached 2 = .ok (.invokevirtual 204, 3) := by decide +kernel
theorem dX10_isReached_5 : decode cX10_isReached 5 = .ok (.ifCond .lt 22, 3) := by decide +kernel
theorem dX10_isReached_8 : decode cX10_isReached 8 = .ok (.aload_n 0, 1) := by decide +kernel
theorem dX10_isReached_9 : decode cX10_isReached 9 = .ok (.iload_n 1, 1) := by decide +kernel
theorem dX10_isReached_10 : decode cX10_isReached 10 = .ok (.invokevirtual 204, 3) := by decide +kernel
theorem dX10_isReached_13 : decode cX10_isReached 13 = .ok (.aload_n 0, 1) := by decide +kernel
theorem dX10_isReached_14 : decode cX10_isReached 14 = .ok (.getfield 7, 3) := by decide +kernel
theorem dX10_isReached_17 : decode cX10_isReached 17 = .ok (.bipush 8, 2) := by decide +kernel
theorem dX10_isReached_19 : decode cX10_isReached 19 = .ok (.iaload, 1) := by decide +kernel
theorem dX10_isReached_20 : decode cX10_isReached 20 = .ok (.if_icmp .gt 7, 3) := by decide +kernel
theorem dX10_isReached_23 : decode cX10_isReached 23 = .ok (.iconst 1, 1) := by decide +kernel
theorem dX10_isReached_24 : decode cX10_isReached 24 = .ok (.goto 4, 3) := by decide +kernel
theorem dX10_isReached_27 : decode cX10_isReached 27 = .ok (.iconst 0, 1) := by decide +kernel
theorem dX10_isReached_28 : decode cX10_isReached 28 = .ok (.ireturn, 1) := by decide +kernel
theorem zm_X10_isReached : ZMv "ClassOfManyModel" yX10_isReached cX10_isReached 2 (some .boolean) 1 := ⟨kw_7_12, kw_7_11, kp_84, kw_1_10, by decide +kernel, by decide⟩
def zf_X10_isReached_j28 (v25 : Int32) : Option (Int32) :=
  zbz v25 (some v25)
def zf_X10_isReached_j27 : Option (Int32) :=
  (zf_X10_isReached_j28 (0 : Int32))
def zf_X10_isReached (n : Nat) (a1 : Int32) (M : ZMem) : Option (Int32) :=
  zb1 (zf_X10_reachedOn n a1 M) (fun v24 => (if v24 < 0 then (zf_X10_isReached_j27) else zb1 (zf_X10_reachedOn n a1 M) (fun v26 => zrd M 78 73 (8 : Int32) (fun v27 => (if v27 < v26 then (zf_X10_isReached_j27) else (zf_X10_isReached_j28 (1 : Int32)))))))
set_option maxHeartbeats 4000000 in
set_option maxRecDepth 100000 in
theorem zc_X10_isReached {l : Launch} {D : va_G} {ad : Nat → Nat} {cA : Nat → ClassId} {n : Nat} {a1 : Int32} {M : ZMem} {r : Int32} (hf : zf_X10_isReached n a1 M = some r) : ZCt l D ad cA yX10_isReached cX10_isReached 2 (some .boolean) 4 [.ref (ad 77), .int a1] M (some (.int r)) M := by
  refine zct (by decide +kernel) (Nat.le_of_ble_eq_true rfl) (lv := [(0, .ref (ad 77)), (1, .int a1)]) rfl (fun E hl hD had hcA hN hC hR => ?_)
  subst hl; subst hD; subst had; subst hcA
  unfold zf_X10_isReached at hf
  refine zw_aload_n hC dX10_isReached_0 rfl 0 rfl ?_
  refine zw_iload_n hC dX10_isReached_1 rfl 1 rfl ?_
  obtain ⟨v24, hc24, hf⟩ := zb1_some hf
  refine zw_cV hC [.int a1] [] (st1 := [.int v24]) zm_X10_reachedOn (zc_X10_reachedOn hc24) zk_77 rfl kw_7_13 dX10_isReached_2 rfl (by decide) (Nat.le_of_ble_eq_true rfl) rfl rfl ?_
  have hj28 : ∀ (v25 : Int32), zf_X10_isReached_j28 v25 = some r → ZW E 28 [] [.int v25] M := by
    intro v25 hf
    unfold zf_X10_isReached_j28 at hf
    obtain ⟨hz, hf⟩ := zbz_some hf
    have h1 := Option.some.inj hf
    subst h1
    exact zw_zret hC hR hz dX10_isReached_28
  have hj27 : zf_X10_isReached_j27 = some r → ZW E 27 [] [] M := by
    intro  hf
    unfold zf_X10_isReached_j27 at hf
    refine zw_iconst hC (v := (0 : Int32)) dX10_isReached_27 (by decide) ?_
    exact hj28 (0 : Int32) hf
  refine zw_if_lt hC 27 hf dX10_isReached_5 (by decide) (fun hf => ?_) (fun hf => ?_)
  · exact zw_sub [] rfl (hj27 hf)
  · refine zw_aload_n hC dX10_isReached_8 rfl 0 rfl ?_
    refine zw_iload_n hC dX10_isReached_9 rfl 1 rfl ?_
    obtain ⟨v26, hc26, hf⟩ := zb1_some hf
    refine zw_cV hC [.int a1] [] (st1 := [.int v26]) zm_X10_reachedOn (zc_X10_reachedOn hc26) zk_77 rfl kw_7_13 dX10_isReached_10 rfl (by decide) (Nat.le_of_ble_eq_true rfl) rfl rfl ?_
    refine zw_aload_n hC dX10_isReached_13 rfl 0 rfl ?_
    refine zw_getr (k' := 78) hC zF_Model_now zk_77 rfl dX10_isReached_14 kw_5_227 ?_
    refine zw_bipush hC (v := (8 : Int32)) dX10_isReached_17 (by decide) ?_
    refine zw_iald hC hf zk_78 dX10_isReached_19 (fun v27 hf => ?_)
    refine zw_icmp_gt hC 27 hf dX10_isReached_20 (by decide) (fun hf => ?_) (fun hf => ?_)
    · exact zw_sub [] rfl (hj27 hf)
    · refine zw_iconst hC (v := (1 : Int32)) dX10_isReached_23 (by decide) ?_
      refine zw_goto hC 28 dX10_isReached_24 (by decide) ?_
      exact zw_sub [] rfl (hj28 (1 : Int32) hf)
/-! ClassOfManyModel.daysOf(IIII)I -/
theorem dX10_daysOf_0 : decode cX10_daysOf 0 = .ok (.iload_n 0, 1) := by decide +kernel
theorem dX10_daysOf_1 : decode cX10_daysOf 1 = .ok (.iload_n 2, 1) := by decide +kernel
theorem dX10_daysOf_2 : decode cX10_daysOf 2 = .ok (.if_icmp .le 7, 3) := by decide +kernel
theorem dX10_daysOf_5 : decode cX10_daysOf 5 = .ok (.iload_n 0, 1) := by decide +kernel
theorem dX10_daysOf_6 : decode cX10_daysOf 6 = .ok (.goto 4, 3) := by decide +kernel
theorem dX10_daysOf_9 : decode cX10_daysOf 9 = .ok (.iload_n 2, 1) := by decide +kernel
theorem dX10_daysOf_10 : decode cX10_daysOf 10 = .ok (.istore 4, 2) := by decide +kernel
theorem dX10_daysOf_12 : decode cX10_daysOf 12 = .ok (.iload_n 1, 1) := by decide +kernel
theorem dX10_daysOf_13 : decode cX10_daysOf 13 = .ok (.iload_n 3, 1) := by decide +kernel
theorem dX10_daysOf_14 : decode cX10_daysOf 14 = .ok (.if_icmp .ge 7, 3) := by decide +kernel
theorem dX10_daysOf_17 : decode cX10_daysOf 17 = .ok (.iload_n 1, 1) := by decide +kernel
theorem dX10_daysOf_18 : decode cX10_daysOf 18 = .ok (.goto 4, 3) := by decide +kernel
theorem dX10_daysOf_21 : decode cX10_daysOf 21 = .ok (.iload_n 3, 1) := by decide +kernel
theorem dX10_daysOf_22 : decode cX10_daysOf 22 = .ok (.istore 5, 2) := by decide +kernel
theorem dX10_daysOf_24 : decode cX10_daysOf 24 = .ok (.iload 5, 2) := by decide +kernel
theorem dX10_daysOf_26 : decode cX10_daysOf 26 = .ok (.iload 4, 2) := by decide +kernel
theorem dX10_daysOf_28 : decode cX10_daysOf 28 = .ok (.if_icmp .ge 7, 3) := by decide +kernel
theorem dX10_daysOf_31 : decode cX10_daysOf 31 = .ok (.iconst 0, 1) := by decide +kernel
theorem dX10_daysOf_32 : decode cX10_daysOf 32 = .ok (.goto 10, 3) := by decide +kernel
theorem dX10_daysOf_35 : decode cX10_daysOf 35 = .ok (.iload 5, 2) := by decide +kernel
theorem dX10_daysOf_37 : decode cX10_daysOf 37 = .ok (.iload 4, 2) := by decide +kernel
theorem dX10_daysOf_39 : decode cX10_daysOf 39 = .ok (.isub, 1) := by decide +kernel
theorem dX10_daysOf_40 : decode cX10_daysOf 40 = .ok (.iconst 1, 1) := by decide +kernel
theorem dX10_daysOf_41 : decode cX10_daysOf 41 = .ok (.iadd, 1) := by decide +kernel
theorem dX10_daysOf_42 : decode cX10_daysOf 42 = .ok (.ireturn, 1) := by decide +kernel
theorem zm_X10_daysOf : ZMs yX10_daysOf cX10_daysOf 6 (some .int) 4 := ⟨kw_7_58, kw_7_57, kw_1_10, by decide +kernel, by decide⟩
def zf_X10_daysOf_j42 (v23 : Int32) : Option (Int32) :=
  some v23
def zf_X10_daysOf_j22 (v21 : Int32) (v22 : Int32) : Option (Int32) :=
  (if v21 ≤ v22 then (zf_X10_daysOf_j42 ((v22 - v21) + (1 : Int32))) else (zf_X10_daysOf_j42 (0 : Int32)))
def zf_X10_daysOf_j10 (a3 : Int32) (a1 : Int32) (v21 : Int32) : Option (Int32) :=
  (if a3 ≤ a1 then (zf_X10_daysOf_j22 v21 a3) else (zf_X10_daysOf_j22 v21 a1))
def zf_X10_daysOf (a0 : Int32) (a1 : Int32) (a2 : Int32) (a3 : Int32) : Option (Int32) :=
  (if a0 ≤ a2 then (zf_X10_daysOf_j10 a3 a1 a2) else (zf_X10_daysOf_j10 a3 a1 a0))
set_option maxHeartbeats 4000000 in
set_option maxRecDepth 100000 in
theorem zc_X10_daysOf {l : Launch} {D : va_G} {ad : Nat → Nat} {cA : Nat → ClassId} {a0 : Int32} {a1 : Int32} {a2 : Int32} {a3 : Int32} {M : ZMem} {r : Int32} (hf : zf_X10_daysOf a0 a1 a2 a3 = some r) : ZCt l D ad cA yX10_daysOf cX10_daysOf 6 (some .int) 1 [.int a0, .int a1, .int a2, .int a3] M (some (.int r)) M := by
  refine zct (by decide +kernel) (Nat.le_of_ble_eq_true rfl) (lv := [(0, .int a0), (1, .int a1), (2, .int a2), (3, .int a3)]) rfl (fun E hl hD had hcA hN hC hR => ?_)
  subst hl; subst hD; subst had; subst hcA
  unfold zf_X10_daysOf at hf
  refine zw_iload_n hC dX10_daysOf_0 rfl 0 rfl ?_
  refine zw_iload_n hC dX10_daysOf_1 rfl 2 rfl ?_
  have hj10 : ∀ (v21 : Int32), zf_X10_daysOf_j10 a3 a1 v21 = some r → ZW E 10 [(1, .int a1), (3, .int a3)] [.int v21] M := by
    intro v21 hf
    unfold zf_X10_daysOf_j10 at hf
    refine zw_istore hC (lv' := [(4, .int v21), (1, .int a1), (3, .int a3)]) dX10_daysOf_10 hN (by decide) rfl ?_
    refine zw_iload_n hC dX10_daysOf_12 rfl 1 rfl ?_
    refine zw_iload_n hC dX10_daysOf_13 rfl 2 rfl ?_
    have hj22 : ∀ (v22 : Int32), zf_X10_daysOf_j22 v21 v22 = some r → ZW E 22 [(4, .int v21)] [.int v22] M := by
      intro v22 hf
      unfold zf_X10_daysOf_j22 at hf
      refine zw_istore hC (lv' := [(5, .int v22), (4, .int v21)]) dX10_daysOf_22 hN (by decide) rfl ?_
      refine zw_iload hC dX10_daysOf_24 0 rfl ?_
      refine zw_iload hC dX10_daysOf_26 1 rfl ?_
      have hj42 : ∀ (v23 : Int32), zf_X10_daysOf_j42 v23 = some r → ZW E 42 [] [.int v23] M := by
        intro v23 hf
        unfold zf_X10_daysOf_j42 at hf
        have h1 := Option.some.inj hf
        subst h1
        exact zw_iret hC hR dX10_daysOf_42
      refine zw_icmp_ge hC 35 hf dX10_daysOf_28 (by decide) (fun hf => ?_) (fun hf => ?_)
      · refine zw_iload hC dX10_daysOf_35 0 rfl ?_
        refine zw_iload hC dX10_daysOf_37 1 rfl ?_
        refine zw_isub hC dX10_daysOf_39 ?_
        refine zw_iconst hC (v := (1 : Int32)) dX10_daysOf_40 (by decide) ?_
        refine zw_iadd hC dX10_daysOf_41 ?_
        exact zw_sub [] rfl (hj42 ((v22 - v21) + (1 : Int32)) hf)
      · refine zw_iconst hC (v := (0 : Int32)) dX10_daysOf_31 (by decide) ?_
        refine zw_goto hC 42 dX10_daysOf_32 (by decide) ?_
        exact zw_sub [] rfl (hj42 (0 : Int32) hf)
    refine zw_icmp_ge hC 21 hf dX10_daysOf_14 (by decide) (fun hf => ?_) (fun hf => ?_)
    · refine zw_iload_n hC dX10_daysOf_21 rfl 2 rfl ?_
      exact zw_sub [0] rfl (hj22 a3 hf)
    · refine zw_iload_n hC dX10_daysOf_17 rfl 1 rfl ?_
      refine zw_goto hC 22 dX10_daysOf_18 (by decide) ?_
      exact zw_sub [0] rfl (hj22 a1 hf)
  refine zw_icmp_le hC 9 hf dX10_daysOf_2 (by decide) (fun hf => ?_) (fun hf => ?_)
  · refine zw_iload_n hC dX10_daysOf_9 rfl 2 rfl ?_
    exact zw_sub [1, 3] rfl (hj10 a2 hf)
  · refine zw_iload_n hC dX10_daysOf_5 rfl 0 rfl ?_
    refine zw_goto hC 10 dX10_daysOf_6 (by decide) ?_
    exact zw_sub [1, 3] rfl (hj10 a0 hf)
/-! ClassOfManyModel.claim(I)I -/
theorem dX10_claim_0 : decode cX10_claim 0 = .ok (.aload_n 0, 1) := by decide +kernel
theorem dX10_claim_1 : decode cX10_claim 1 = .ok (.getfield 7, 3) := by decide +kernel
theorem dX10_claim_4 : decode cX10_claim 4 = .ok (.bipush 35, 2) := by decide +kernel
theorem dX10_claim_6 : decode cX10_claim 6 = .ok (.iload_n 1, 1) := by decide +kernel
theorem dX10_claim_7 : decode cX10_claim 7 = .ok (.iadd, 1) := by decide +kernel
theorem dX10_claim_8 : decode cX10_claim 8 = .ok (.iaload, 1) := by decide +kernel
theorem dX10_claim_9 : decode cX10_claim 9 = .ok (.aload_n 0, 1) := by decide +kernel
theorem dX10_claim_10 : decode cX10_claim 10 = .ok (.getfield 7, 3) := by decide +kernel
theorem dX10_claim_13 : decode cX10_claim 13 = .ok (.bipush 15, 2) := by decide +kernel
theorem dX10_claim_15 : decode cX10_claim 15 = .ok (.iload_n 1, 1) := by decide +kernel
theorem dX10_claim_16 : decode cX10_claim 16 = .ok (.iadd, 1) := by decide +kernel
theorem dX10_claim_17 : decode cX10_claim 17 = .ok (.iaload, 1) := by decide +kernel
theorem dX10_claim_18 : decode cX10_claim 18 = .ok (.aload_n 0, 1) := by decide +kernel
theorem dX10_claim_19 : decode cX10_claim 19 = .ok (.getfield 7, 3) := by decide +kernel
theorem dX10_claim_22 : decode cX10_claim 22 = .ok (.bipush 25, 2) := by decide +kernel
theorem dX10_claim_24 : decode cX10_claim 24 = .ok (.iload_n 1, 1) := by decide +kernel
theorem dX10_claim_25 : decode cX10_claim 25 = .ok (.iadd, 1) := by decide +kernel
theorem dX10_claim_26 : decode cX10_claim 26 = .ok (.iaload, 1) := by decide +kernel
theorem dX10_claim_27 : decode cX10_claim 27 = .ok (.aload_n 0, 1) := by decide +kernel
theorem dX10_claim_28 : decode cX10_claim 28 = .ok (.getfield 7, 3) := by decide +kernel
theorem dX10_claim_31 : decode cX10_claim 31 = .ok (.bipush 6, 2) := by decide +kernel
theorem dX10_claim_33 : decode cX10_claim 33 = .ok (.iaload, 1) := by decide +kernel
theorem dX10_claim_34 : decode cX10_claim 34 = .ok (.aload_n 0, 1) := by decide +kernel
theorem dX10_claim_35 : decode cX10_claim 35 = .ok (.getfield 7, 3) := by decide +kernel
theorem dX10_claim_38 : decode cX10_claim 38 = .ok (.bipush 7, 2) := by decide +kernel
theorem dX10_claim_40 : decode cX10_claim 40 = .ok (.iaload, 1) := by decide +kernel
theorem dX10_claim_41 : decode cX10_claim 41 = .ok (.invokestatic 207, 3) := by decide +kernel
theorem dX10_claim_44 : decode cX10_claim 44 = .ok (.imul, 1) := by decide +kernel
theorem dX10_claim_45 : decode cX10_claim 45 = .ok (.ireturn, 1) := by decide +kernel
theorem zm_X10_claim : ZMv "ClassOfManyModel" yX10_claim cX10_claim 2 (some .int) 1 := ⟨kw_7_55, kw_7_54, kp_89, kw_1_10, by decide +kernel, by decide⟩
def zf_X10_claim (a1 : Int32) (M : ZMem) : Option (Int32) :=
  zrd M 78 73 ((35 : Int32) + a1) (fun v27 => zrd M 78 73 ((15 : Int32) + a1) (fun v28 => zrd M 78 73 ((25 : Int32) + a1) (fun v29 => zrd M 78 73 (6 : Int32) (fun v30 => zrd M 78 73 (7 : Int32) (fun v31 => zb1 (zf_X10_daysOf v28 v29 v30 v31) (fun v32 => some (v27 * v32)))))))
set_option maxHeartbeats 4000000 in
set_option maxRecDepth 100000 in
theorem zc_X10_claim {l : Launch} {D : va_G} {ad : Nat → Nat} {cA : Nat → ClassId} {a1 : Int32} {M : ZMem} {r : Int32} (hf : zf_X10_claim a1 M = some r) : ZCt l D ad cA yX10_claim cX10_claim 2 (some .int) 2 [.ref (ad 77), .int a1] M (some (.int r)) M := by
  refine zct (by decide +kernel) (Nat.le_of_ble_eq_true rfl) (lv := [(0, .ref (ad 77)), (1, .int a1)]) rfl (fun E hl hD had hcA hN hC hR => ?_)
  subst hl; subst hD; subst had; subst hcA
  unfold zf_X10_claim at hf
  refine zw_aload_n hC dX10_claim_0 rfl 0 rfl ?_
  refine zw_getr (k' := 78) hC zF_Model_now zk_77 rfl dX10_claim_1 kw_5_227 ?_
  refine zw_bipush hC (v := (35 : Int32)) dX10_claim_4 (by decide) ?_
  refine zw_iload_n hC dX10_claim_6 rfl 1 rfl ?_
  refine zw_iadd hC dX10_claim_7 ?_
  refine zw_iald hC hf zk_78 dX10_claim_8 (fun v27 hf => ?_)
  refine zw_aload_n hC dX10_claim_9 rfl 0 rfl ?_
  refine zw_getr (k' := 78) hC zF_Model_now zk_77 rfl dX10_claim_10 kw_5_227 ?_
  refine zw_bipush hC (v := (15 : Int32)) dX10_claim_13 (by decide) ?_
  refine zw_iload_n hC dX10_claim_15 rfl 1 rfl ?_
  refine zw_iadd hC dX10_claim_16 ?_
  refine zw_iald hC hf zk_78 dX10_claim_17 (fun v28 hf => ?_)
  refine zw_aload_n hC dX10_claim_18 rfl 0 rfl ?_
  refine zw_getr (k' := 78) hC zF_Model_now zk_77 rfl dX10_claim_19 kw_5_227 ?_
  refine zw_bipush hC (v := (25 : Int32)) dX10_claim_22 (by decide) ?_
  refine zw_iload_n hC dX10_claim_24 rfl 1 rfl ?_
  refine zw_iadd hC dX10_claim_25 ?_
  refine zw_iald hC hf zk_78 dX10_claim_26 (fun v29 hf => ?_)
  refine zw_aload_n hC dX10_claim_27 rfl 0 rfl ?_
  refine zw_getr (k' := 78) hC zF_Model_now zk_77 rfl dX10_claim_28 kw_5_227 ?_
  refine zw_bipush hC (v := (6 : Int32)) dX10_claim_31 (by decide) ?_
  refine zw_iald hC hf zk_78 dX10_claim_33 (fun v30 hf => ?_)
  refine zw_aload_n hC dX10_claim_34 rfl 0 rfl ?_
  refine zw_getr (k' := 78) hC zF_Model_now zk_77 rfl dX10_claim_35 kw_5_227 ?_
  refine zw_bipush hC (v := (7 : Int32)) dX10_claim_38 (by decide) ?_
  refine zw_iald hC hf zk_78 dX10_claim_40 (fun v31 hf => ?_)
  obtain ⟨v32, hc32, hf⟩ := zb1_some hf
  refine zw_cS hC [.int v28, .int v29, .int v30, .int v31] [.int v27] (st1 := [.int v32, .int v27]) zm_X10_daysOf (zc_X10_daysOf hc32) kw_7_56 dX10_claim_41 rfl (by decide) (Nat.le_of_ble_eq_true rfl) rfl rfl ?_
  refine zw_imul hC dX10_claim_44 ?_
  have h1 := Option.some.inj hf
  subst h1
  exact zw_iret hC hR dX10_claim_45
/-! ClassOfManyModel.claims(I)I -/
theorem dX10_claims_0 : decode cX10_claims 0 = .ok (.iconst 0, 1) := by decide +kernel
theorem dX10_claims_1 : decode cX10_claims 1 = .ok (.istore_n 2, 1) := by decide +kernel
theorem dX10_claims_2 : decode cX10_claims 2 = .ok (.iconst 0, 1) := by decide +kernel
theorem dX10_claims_3 : decode cX10_claims 3 = .ok (.istore_n 3, 1) := by decide +kernel
theorem dX10_claims_4 : decode cX10_claims 4 = .ok (.iload_n 3, 1) := by decide +kernel
theorem dX10_claims_5 : decode cX10_claims 5 = .ok (.aload_n 0, 1) := by decide +kernel
theorem dX10_claims_6 : decode cX10_claims 6 = .ok (.getfield 7, 3) := by decide +kernel
theorem dX10_claims_9 : decode cX10_claims 9 = .ok (.iconst 0, 1) := by decide +kernel
theorem dX10_claims_10 : decode cX10_claims 10 = .ok (.iaload, 1) := by decide +kernel
theorem dX10_claims_11 : decode cX10_claims 11 = .ok (.if_icmp .ge 29, 3) := by decide +kernel
theorem dX10_claims_14 : decode cX10_claims 14 = .ok (.iload_n 2, 1) := by decide +kernel
theorem dX10_claims_15 : decode cX10_claims 15 = .ok (.iload_n 1, 1) := by decide +kernel
theorem dX10_claims_16 : decode cX10_claims 16 = .ok (.iload_n 3, 1) := by decide +kernel
theorem dX10_claims_17 : decode cX10_claims 17 = .ok (.invokestatic 118, 3) := by decide +kernel
theorem dX10_claims_20 : decode cX10_claims 20 = .ok (.ifCond .eq 11, 3) := by decide +kernel
theorem dX10_claims_23 : decode cX10_claims 23 = .ok (.aload_n 0, 1) := by decide +kernel
theorem dX10_claims_24 : decode cX10_claims 24 = .ok (.iload_n 3, 1) := by decide +kernel
theorem dX10_claims_25 : decode cX10_claims 25 = .ok (.invokevirtual 211, 3) := by decide +kernel
theorem dX10_claims_28 : decode cX10_claims 28 = .ok (.goto 4, 3) := by decide +kernel
theorem dX10_claims_31 : decode cX10_claims 31 = .ok (.iconst 0, 1) := by decide +kernel
theorem dX10_claims_32 : decode cX10_claims 32 = .ok (.iadd, 1) := by decide +kernel
theorem dX10_claims_33 : decode cX10_claims 33 = .ok (.istore_n 2, 1) := by decide +kernel
theorem dX10_claims_34 : decode cX10_claims 34 = .ok (.iinc 3 1, 3) := by decide +kernel
theorem dX10_claims_37 : decode cX10_claims 37 = .ok (.goto (-33), 3) := by decide +kernel
theorem dX10_claims_40 : decode cX10_claims 40 = .ok (.iload_n 2, 1) := by decide +kernel
theorem dX10_claims_41 : decode cX10_claims 41 = .ok (.ireturn, 1) := by decide +kernel
theorem zm_X10_claims : ZMv "ClassOfManyModel" yX10_claims cX10_claims 4 (some .int) 1 := ⟨kw_7_51, kw_7_50, kp_88, kw_1_10, by decide +kernel, by decide⟩
def zf_X10_claims_j32 (R4 : Int32 → Int32 → Option (Int32)) (v24 : Int32) (v25 : Int32) (v29 : Int32) : Option (Int32) :=
  (R4 (v24 + v29) (v25 + (1 : Int32)))
def zf_X10_claims_L4 (M : ZMem) (a1 : Int32) (K40 : Int32 → Option (Int32)) : Nat → Int32 → Int32 → Option (Int32)
  | 0, _, _ => none
  | n4 + 1, v24, v25 =>
  zrd M 78 73 (0 : Int32) (fun v27 => (if v27 ≤ v25 then (K40 v24) else zb1 (zf_X10_has a1 v25) (fun v28 => (if v28 = 0 then (zf_X10_claims_j32 (fun x0 x1 => zf_X10_claims_L4 M a1 K40 n4 x0 x1) v24 v25 (0 : Int32)) else zb1 (zf_X10_claim v25 M) (fun v30 => (zf_X10_claims_j32 (fun x0 x1 => zf_X10_claims_L4 M a1 K40 n4 x0 x1) v24 v25 v30))))))
def zf_X10_claims (n : Nat) (a1 : Int32) (M : ZMem) : Option (Int32) :=
  (zf_X10_claims_L4 M a1 (fun v31 => some v31) n (0 : Int32) (0 : Int32))
set_option maxHeartbeats 4000000 in
set_option maxRecDepth 100000 in
theorem zc_X10_claims {l : Launch} {D : va_G} {ad : Nat → Nat} {cA : Nat → ClassId} {n : Nat} {a1 : Int32} {M : ZMem} {r : Int32} (hf : zf_X10_claims n a1 M = some r) : ZCt l D ad cA yX10_claims cX10_claims 4 (some .int) 3 [.ref (ad 77), .int a1] M (some (.int r)) M := by
  refine zct (by decide +kernel) (Nat.le_of_ble_eq_true rfl) (lv := [(0, .ref (ad 77)), (1, .int a1)]) rfl (fun E hl hD had hcA hN hC hR => ?_)
  subst hl; subst hD; subst had; subst hcA
  unfold zf_X10_claims at hf
  refine zw_iconst hC (v := (0 : Int32)) dX10_claims_0 (by decide) ?_
  refine zw_istore_n hC (lv' := [(2, .int (0 : Int32)), (0, .ref (zad E 77)), (1, .int a1)]) dX10_claims_1 rfl hN (by decide) rfl ?_
  refine zw_iconst hC (v := (0 : Int32)) dX10_claims_2 (by decide) ?_
  refine zw_istore_n hC (lv' := [(3, .int (0 : Int32)), (2, .int (0 : Int32)), (0, .ref (zad E 77)), (1, .int a1)]) dX10_claims_3 rfl hN (by decide) rfl ?_
  have hL4 : ∀ (K40 : Int32 → Option (Int32)), (∀ (v26 : Int32), K40 v26 = some r → ZW E 40 [(2, .int v26)] [] M) → ∀ (n4 : Nat), ∀ (v24 : Int32), ∀ (v25 : Int32), zf_X10_claims_L4 M a1 K40 n4 v24 v25 = some r → ZW E 4 [(0, .ref (zad E 77)), (1, .int a1), (2, .int v24), (3, .int v25)] [] M := by
    intro K40 hK40
    intro n4
    induction n4 with
    | zero => intro v24 v25 hf; rw [zf_X10_claims_L4] at hf; cases hf
    | succ n4 ih4 =>
      intro v24 v25 hf
      rw [zf_X10_claims_L4] at hf
      refine zw_iload_n hC dX10_claims_4 rfl 3 rfl ?_
      refine zw_aload_n hC dX10_claims_5 rfl 0 rfl ?_
      refine zw_getr (k' := 78) hC zF_Model_now zk_77 rfl dX10_claims_6 kw_5_227 ?_
      refine zw_iconst hC (v := (0 : Int32)) dX10_claims_9 (by decide) ?_
      refine zw_iald hC hf zk_78 dX10_claims_10 (fun v27 hf => ?_)
      refine zw_icmp_ge hC 40 hf dX10_claims_11 (by decide) (fun hf => ?_) (fun hf => ?_)
      · exact zw_sub [2] rfl (hK40 v24 hf)
      · refine zw_iload_n hC dX10_claims_14 rfl 2 rfl ?_
        refine zw_iload_n hC dX10_claims_15 rfl 1 rfl ?_
        refine zw_iload_n hC dX10_claims_16 rfl 3 rfl ?_
        obtain ⟨v28, hc28, hf⟩ := zb1_some hf
        refine zw_cS hC [.int a1, .int v25] [.int v24] (st1 := [.int v28, .int v24]) zm_X10_has (zc_X10_has hc28) kw_6_150 dX10_claims_17 rfl (by decide) (Nat.le_of_ble_eq_true rfl) rfl rfl ?_
        have hj32 : ∀ (v29 : Int32), zf_X10_claims_j32 (fun x0 x1 => zf_X10_claims_L4 M a1 K40 n4 x0 x1) v24 v25 v29 = some r → ZW E 32 [(0, .ref (zad E 77)), (1, .int a1), (3, .int v25)] [.int v29, .int v24] M := by
          intro v29 hf
          unfold zf_X10_claims_j32 at hf
          refine zw_iadd hC dX10_claims_32 ?_
          refine zw_istore_n hC (lv' := [(2, .int (v24 + v29)), (0, .ref (zad E 77)), (1, .int a1), (3, .int v25)]) dX10_claims_33 rfl hN (by decide) rfl ?_
          refine zw_iinc hC (v := (1 : Int32)) (lv' := [(3, .int (v25 + (1 : Int32))), (2, .int (v24 + v29)), (0, .ref (zad E 77)), (1, .int a1)]) dX10_claims_34 3 rfl (by decide) hN (by decide) rfl ?_
          refine zw_goto hC 4 dX10_claims_37 (by decide) ?_
          exact zw_sub [2, 3, 1, 0] rfl (ih4 (v24 + v29) (v25 + (1 : Int32)) hf)
        refine zw_if_eq hC 31 hf dX10_claims_20 (by decide) (fun hf => ?_) (fun hf => ?_)
        · refine zw_iconst hC (v := (0 : Int32)) dX10_claims_31 (by decide) ?_
          exact zw_sub [0, 1, 3] rfl (hj32 (0 : Int32) hf)
        · refine zw_aload_n hC dX10_claims_23 rfl 0 rfl ?_
          refine zw_iload_n hC dX10_claims_24 rfl 3 rfl ?_
          obtain ⟨v30, hc30, hf⟩ := zb1_some hf
          refine zw_cV hC [.int v25] [.int v24] (st1 := [.int v30, .int v24]) zm_X10_claim (zc_X10_claim hc30) zk_77 rfl kw_7_52 dX10_claims_25 rfl (by decide) (Nat.le_of_ble_eq_true rfl) rfl rfl ?_
          refine zw_goto hC 32 dX10_claims_28 (by decide) ?_
          exact zw_sub [0, 1, 3] rfl (hj32 v30 hf)
  refine zw_sub [2, 3, 1, 0] rfl (hL4 _ ?_ n (0 : Int32) (0 : Int32) hf)
  · intro v31 hf
    refine zw_iload_n hC dX10_claims_40 rfl 0 rfl ?_
    have h1 := Option.some.inj hf
    subst h1
    exact zw_iret hC hR dX10_claims_41
/-! ClassOfManyModel.isFree(II)Z -/
theorem dX10_isFree_0 : decode cX10_isFree 0 = .ok (.iconst 0, 1) := by decide +kernel
theorem dX10_isFree_1 : decode cX10_isFree 1 = .ok (.istore_n 3, 1) := by decide +kernel
theorem dX10_isFree_2 : decode cX10_isFree 2 = .ok (.iload_n 3, 1) := by decide +kernel
theorem dX10_isFree_3 : decode cX10_isFree 3 = .ok (.iload_n 1, 1) := by decide +kernel
theorem dX10_isFree_4 : decode cX10_isFree 4 = .ok (.if_icmp .ge 50, 3) := by decide +kernel
theorem dX10_isFree_7 : decode cX10_isFree 7 = .ok (.iload_n 2, 1) := by decide +kernel
theorem dX10_isFree_8 : decode cX10_isFree 8 = .ok (.iload_n 3, 1) := by decide +kernel
theorem dX10_isFree_9 : decode cX10_isFree 9 = .ok (.invokestatic 118, 3) := by decide +kernel
theorem dX10_isFree_12 : decode cX10_isFree 12 = .ok (.ifCond .eq 36, 3) := by decide +kernel
theorem dX10_isFree_15 : decode cX10_isFree 15 = .ok (.aload_n 0, 1) := by decide +kernel
theorem dX10_isFree_16 : decode cX10_isFree 16 = .ok (.getfield 31, 3) := by decide +kernel
theorem dX10_isFree_19 : decode cX10_isFree 19 = .ok (.iload_n 3, 1) := by decide +kernel
theorem dX10_isFree_20 : decode cX10_isFree 20 = .ok (.iaload, 1) := by decide +kernel
theorem dX10_isFree_21 : decode cX10_isFree 21 = .ok (.aload_n 0, 1) := by decide +kernel
theorem dX10_isFree_22 : decode cX10_isFree 22 = .ok (.getfield 31, 3) := by decide +kernel
theorem dX10_isFree_25 : decode cX10_isFree 25 = .ok (.iload_n 1, 1) := by decide +kernel
theorem dX10_isFree_26 : decode cX10_isFree 26 = .ok (.iaload, 1) := by decide +kernel
theorem dX10_isFree_27 : decode cX10_isFree 27 = .ok (.if_icmp .ne 21, 3) := by decide +kernel
theorem dX10_isFree_30 : decode cX10_isFree 30 = .ok (.aload_n 0, 1) := by decide +kernel
theorem dX10_isFree_31 : decode cX10_isFree 31 = .ok (.getfield 7, 3) := by decide +kernel
theorem dX10_isFree_34 : decode cX10_isFree 34 = .ok (.bipush 63, 2) := by decide +kernel
theorem dX10_isFree_36 : decode cX10_isFree 36 = .ok (.iload_n 1, 1) := by decide +kernel
theorem dX10_isFree_37 : decode cX10_isFree 37 = .ok (.iadd, 1) := by decide +kernel
theorem dX10_isFree_38 : decode cX10_isFree 38 = .ok (.iaload, 1) := by decide +kernel
theorem dX10_isFree_39 : decode cX10_isFree 39 = .ok (.iload_n 3, 1) := by decide +kernel
theorem dX10_isFree_40 : decode cX10_isFree 40 = .ok (.invokestatic 118, 3) := by decide +kernel
theorem dX10_isFree_43 : decode cX10_isFree 43 = .ok (.ifCond .eq 5, 3) := by decide +kernel
theorem dX10_isFree_46 : decode cX10_isFree 46 = .ok (.iconst 0, 1) := by decide +kernel
theorem dX10_isFree_47 : decode cX10_isFree 47 = .ok (.ireturn, 1) := by decide +kernel
theorem dX10_isFree_48 : decode cX10_isFree 48 = .ok (.iinc 3 1, 3) := by decide +kernel
theorem dX10_isFree_51 : decode cX10_isFree 51 = .ok (.goto (-49), 3) := by decide +kernel
theorem dX10_isFree_54 : decode cX10_isFree 54 = .ok (.iconst 1, 1) := by decide +kernel
theorem dX10_isFree_55 : decode cX10_isFree 55 = .ok (.ireturn, 1) := by decide +kernel
theorem zm_X10_isFree : ZMv "ClassOfManyModel" yX10_isFree cX10_isFree 4 (some .boolean) 2 := ⟨kw_7_118, kw_7_117, kp_95, kw_1_10, by decide +kernel, by decide⟩
def zf_X10_isFree_j48 (R2 : Int32 → Option (Int32)) (v26 : Int32) : Option (Int32) :=
  (R2 (v26 + (1 : Int32)))
def zf_X10_isFree_L2 (a1 : Int32) (a2 : Int32) (M : ZMem) (K54 : Option (Int32)) : Nat → Int32 → Option (Int32)
  | 0, _ => none
  | n2 + 1, v26 =>
  (if a1 ≤ v26 then K54 else zb1 (zf_X10_has a2 v26) (fun v27 => (if v27 = 0 then (zf_X10_isFree_j48 (fun x0 => zf_X10_isFree_L2 a1 a2 M K54 n2 x0) v26) else zrd M 85 10 v26 (fun v28 => zrd M 85 10 a1 (fun v29 => (if v28 = v29 then zrd M 78 73 ((63 : Int32) + a1) (fun v30 => zb1 (zf_X10_has v30 v26) (fun v31 => (if v31 = 0 then (zf_X10_isFree_j48 (fun x0 => zf_X10_isFree_L2 a1 a2 M K54 n2 x0) v26) else some (0 : Int32)))) else (zf_X10_isFree_j48 (fun x0 => zf_X10_isFree_L2 a1 a2 M K54 n2 x0) v26)))))))
def zf_X10_isFree (n : Nat) (a1 : Int32) (a2 : Int32) (M : ZMem) : Option (Int32) :=
  (zf_X10_isFree_L2 a1 a2 M (some (1 : Int32)) n (0 : Int32))
set_option maxHeartbeats 4000000 in
set_option maxRecDepth 100000 in
theorem zc_X10_isFree {l : Launch} {D : va_G} {ad : Nat → Nat} {cA : Nat → ClassId} {n : Nat} {a1 : Int32} {a2 : Int32} {M : ZMem} {r : Int32} (hf : zf_X10_isFree n a1 a2 M = some r) : ZCt l D ad cA yX10_isFree cX10_isFree 4 (some .boolean) 2 [.ref (ad 77), .int a1, .int a2] M (some (.int r)) M := by
  refine zct (by decide +kernel) (Nat.le_of_ble_eq_true rfl) (lv := [(0, .ref (ad 77)), (1, .int a1), (2, .int a2)]) rfl (fun E hl hD had hcA hN hC hR => ?_)
  subst hl; subst hD; subst had; subst hcA
  unfold zf_X10_isFree at hf
  refine zw_iconst hC (v := (0 : Int32)) dX10_isFree_0 (by decide) ?_
  refine zw_istore_n hC (lv' := [(3, .int (0 : Int32)), (0, .ref (zad E 77)), (1, .int a1), (2, .int a2)]) dX10_isFree_1 rfl hN (by decide) rfl ?_
  have hL2 : ∀ (K54 : Option (Int32)), (K54 = some r → ZW E 54 [] [] M) → ∀ (n2 : Nat), ∀ (v26 : Int32), zf_X10_isFree_L2 a1 a2 M K54 n2 v26 = some r → ZW E 2 [(0, .ref (zad E 77)), (1, .int a1), (2, .int a2), (3, .int v26)] [] M := by
    intro K54 hK54
    intro n2
    induction n2 with
    | zero => intro v26 hf; rw [zf_X10_isFree_L2] at hf; cases hf
    | succ n2 ih2 =>
      intro v26 hf
      rw [zf_X10_isFree_L2] at hf
      refine zw_iload_n hC dX10_isFree_2 rfl 3 rfl ?_
      refine zw_iload_n hC dX10_isFree_3 rfl 1 rfl ?_
      refine zw_icmp_ge hC 54 hf dX10_isFree_4 (by decide) (fun hf => ?_) (fun hf => ?_)
      · exact zw_sub [] rfl (hK54 hf)
      · refine zw_iload_n hC dX10_isFree_7 rfl 2 rfl ?_
        refine zw_iload_n hC dX10_isFree_8 rfl 3 rfl ?_
        obtain ⟨v27, hc27, hf⟩ := zb1_some hf
        refine zw_cS hC [.int a2, .int v26] [] (st1 := [.int v27]) zm_X10_has (zc_X10_has hc27) kw_6_150 dX10_isFree_9 rfl (by decide) (Nat.le_of_ble_eq_true rfl) rfl rfl ?_
        have hj48 : zf_X10_isFree_j48 (fun x0 => zf_X10_isFree_L2 a1 a2 M K54 n2 x0) v26 = some r → ZW E 48 [(0, .ref (zad E 77)), (1, .int a1), (2, .int a2), (3, .int v26)] [] M := by
          intro  hf
          unfold zf_X10_isFree_j48 at hf
          refine zw_iinc hC (v := (1 : Int32)) (lv' := [(3, .int (v26 + (1 : Int32))), (0, .ref (zad E 77)), (1, .int a1), (2, .int a2)]) dX10_isFree_48 3 rfl (by decide) hN (by decide) rfl ?_
          refine zw_goto hC 2 dX10_isFree_51 (by decide) ?_
          exact zw_sub [1, 2, 3, 0] rfl (ih2 (v26 + (1 : Int32)) hf)
        refine zw_if_eq hC 48 hf dX10_isFree_12 (by decide) (fun hf => ?_) (fun hf => ?_)
        · exact hj48 hf
        · refine zw_aload_n hC dX10_isFree_15 rfl 0 rfl ?_
          refine zw_getr (k' := 85) hC zF_Model_part zk_77 rfl dX10_isFree_16 kw_6_5 ?_
          refine zw_iload_n hC dX10_isFree_19 rfl 3 rfl ?_
          refine zw_iald hC hf zk_85 dX10_isFree_20 (fun v28 hf => ?_)
          refine zw_aload_n hC dX10_isFree_21 rfl 0 rfl ?_
          refine zw_getr (k' := 85) hC zF_Model_part zk_77 rfl dX10_isFree_22 kw_6_5 ?_
          refine zw_iload_n hC dX10_isFree_25 rfl 1 rfl ?_
          refine zw_iald hC hf zk_85 dX10_isFree_26 (fun v29 hf => ?_)
          refine zw_icmp_ne hC 48 hf dX10_isFree_27 (by decide) (fun hf => ?_) (fun hf => ?_)
          · exact hj48 hf
          · refine zw_aload_n hC dX10_isFree_30 rfl 0 rfl ?_
            refine zw_getr (k' := 78) hC zF_Model_now zk_77 rfl dX10_isFree_31 kw_5_227 ?_
            refine zw_bipush hC (v := (63 : Int32)) dX10_isFree_34 (by decide) ?_
            refine zw_iload_n hC dX10_isFree_36 rfl 1 rfl ?_
            refine zw_iadd hC dX10_isFree_37 ?_
            refine zw_iald hC hf zk_78 dX10_isFree_38 (fun v30 hf => ?_)
            refine zw_iload_n hC dX10_isFree_39 rfl 3 rfl ?_
            obtain ⟨v31, hc31, hf⟩ := zb1_some hf
            refine zw_cS hC [.int v30, .int v26] [] (st1 := [.int v31]) zm_X10_has (zc_X10_has hc31) kw_6_150 dX10_isFree_40 rfl (by decide) (Nat.le_of_ble_eq_true rfl) rfl rfl ?_
            refine zw_if_eq hC 48 hf dX10_isFree_43 (by decide) (fun hf => ?_) (fun hf => ?_)
            · exact hj48 hf
            · refine zw_iconst hC (v := (0 : Int32)) dX10_isFree_46 (by decide) ?_
              have h1 := Option.some.inj hf
              subst h1
              exact zw_zret hC hR rfl dX10_isFree_47
  refine zw_sub [1, 2, 3, 0] rfl (hL2 _ ?_ n (0 : Int32) hf)
  · intro  hf
    refine zw_iconst hC (v := (1 : Int32)) dX10_isFree_54 (by decide) ?_
    have h1 := Option.some.inj hf
    subst h1
    exact zw_zret hC hR rfl dX10_isFree_55
/-! ClassOfManyModel.fits(II)Z -/
theorem dX10_fits_0 : decode cX10_fits 0 = .ok (.iconst 0, 1) := by decide +kernel
theorem dX10_fits_1 : decode cX10_fits 1 = .ok (.istore_n 3, 1) := by decide +kernel
theorem dX10_fits_2 : decode cX10_fits 2 = .ok (.iload_n 3, 1) := by decide +kernel
theorem dX10_fits_3 : decode cX10_fits 3 = .ok (.bipush 10, 2) := by decide +kernel
theorem dX10_fits_5 : decode cX10_fits 5 = .ok (.if_icmp .ge 16, 3) := by decide +kernel
theorem dX10_fits_8 : decode cX10_fits 8 = .ok (.aload_n 0, 1) := by decide +kernel
theorem dX10_fits_9 : decode cX10_fits 9 = .ok (.getfield 31, 3) := by decide +kernel
theorem dX10_fits_12 : decode cX10_fits 12 = .ok (.iload_n 3, 1) := by decide +kernel
theorem dX10_fits_13 : decode cX10_fits 13 = .ok (.iconst (-1), 1) := by decide +kernel
theorem dX10_fits_14 : decode cX10_fits 14 = .ok (.iastore, 1) := by decide +kernel
theorem dX10_fits_15 : decode cX10_fits 15 = .ok (.iinc 3 1, 3) := by decide +kernel
theorem dX10_fits_18 : decode cX10_fits 18 = .ok (.goto (-16), 3) := by decide +kernel
theorem dX10_fits_21 : decode cX10_fits 21 = .ok (.iconst 0, 1) := by decide +kernel
theorem dX10_fits_22 : decode cX10_fits 22 = .ok (.istore_n 3, 1) := by decide +kernel
theorem dX10_fits_23 : decode cX10_fits 23 = .ok (.iload_n 3, 1) := by decide +kernel
theorem dX10_fits_24 : decode cX10_fits 24 = .ok (.ifCond .lt 90, 3) := by decide +kernel
theorem dX10_fits_27 : decode cX10_fits 27 = .ok (.iload_n 3, 1) := by decide +kernel
theorem dX10_fits_28 : decode cX10_fits 28 = .ok (.aload_n 0, 1) := by decide +kernel
theorem dX10_fits_29 : decode cX10_fits 29 = .ok (.getfield 7, 3) := by decide +kernel
theorem dX10_fits_32 : decode cX10_fits 32 = .ok (.iconst 0, 1) := by decide +kernel
theorem dX10_fits_33 : decode cX10_fits 33 = .ok (.iaload, 1) := by decide +kernel
theorem dX10_fits_34 : decode cX10_fits 34 = .ok (.if_icmp .ge 80, 3) := by decide +kernel
theorem dX10_fits_37 : decode cX10_fits 37 = .ok (.iload_n 1, 1) := by decide +kernel
theorem dX10_fits_38 : decode cX10_fits 38 = .ok (.iload_n 3, 1) := by decide +kernel
theorem dX10_fits_39 : decode cX10_fits 39 = .ok (.invokestatic 118, 3) := by decide +kernel
theorem dX10_fits_42 : decode cX10_fits 42 = .ok (.ifCond .ne 9, 3) := by decide +kernel
theorem dX10_fits_45 : decode cX10_fits 45 = .ok (.iinc 3 1, 3) := by decide +kernel
theorem dX10_fits_48 : decode cX10_fits 48 = .ok (.goto (-25), 3) := by decide +kernel
theorem dX10_fits_51 : decode cX10_fits 51 = .ok (.aload_n 0, 1) := by decide +kernel
theorem dX10_fits_52 : decode cX10_fits 52 = .ok (.getfield 31, 3) := by decide +kernel
theorem dX10_fits_55 : decode cX10_fits 55 = .ok (.iload_n 3, 1) := by decide +kernel
theorem dX10_fits_56 : decode cX10_fits 56 = .ok (.dup2, 1) := by decide +kernel
theorem dX10_fits_57 : decode cX10_fits 57 = .ok (.iaload, 1) := by decide +kernel
theorem dX10_fits_58 : decode cX10_fits 58 = .ok (.iconst 1, 1) := by decide +kernel
theorem dX10_fits_59 : decode cX10_fits 59 = .ok (.iadd, 1) := by decide +kernel
theorem dX10_fits_60 : decode cX10_fits 60 = .ok (.iastore, 1) := by decide +kernel
theorem dX10_fits_61 : decode cX10_fits 61 = .ok (.aload_n 0, 1) := by decide +kernel
theorem dX10_fits_62 : decode cX10_fits 62 = .ok (.getfield 31, 3) := by decide +kernel
theorem dX10_fits_65 : decode cX10_fits 65 = .ok (.iload_n 3, 1) := by decide +kernel
theorem dX10_fits_66 : decode cX10_fits 66 = .ok (.iaload, 1) := by decide +kernel
theorem dX10_fits_67 : decode cX10_fits 67 = .ok (.iload_n 2, 1) := by decide +kernel
theorem dX10_fits_68 : decode cX10_fits 68 = .ok (.if_icmp .lt 31, 3) := by decide +kernel
theorem dX10_fits_71 : decode cX10_fits 71 = .ok (.aload_n 0, 1) := by decide +kernel
theorem dX10_fits_72 : decode cX10_fits 72 = .ok (.getfield 31, 3) := by decide +kernel
theorem dX10_fits_75 : decode cX10_fits 75 = .ok (.iload_n 3, 1) := by decide +kernel
theorem dX10_fits_76 : decode cX10_fits 76 = .ok (.iconst (-1), 1) := by decide +kernel
theorem dX10_fits_77 : decode cX10_fits 77 = .ok (.iastore, 1) := by decide +kernel
theorem dX10_fits_78 : decode cX10_fits 78 = .ok (.iinc 3 (-1), 3) := by decide +kernel
theorem dX10_fits_81 : decode cX10_fits 81 = .ok (.iload_n 3, 1) := by decide +kernel
theorem dX10_fits_82 : decode cX10_fits 82 = .ok (.ifCond .lt (-59), 3) := by decide +kernel
theorem dX10_fits_85 : decode cX10_fits 85 = .ok (.iload_n 1, 1) := by decide +kernel
theorem dX10_fits_86 : decode cX10_fits 86 = .ok (.iload_n 3, 1) := by decide +kernel
theorem dX10_fits_87 : decode cX10_fits 87 = .ok (.invokestatic 118, 3) := by decide +kernel
theorem dX10_fits_90 : decode cX10_fits 90 = .ok (.ifCond .ne (-67), 3) := by decide +kernel
theorem dX10_fits_93 : decode cX10_fits 93 = .ok (.iinc 3 (-1), 3) := by decide +kernel
theorem dX10_fits_96 : decode cX10_fits 96 = .ok (.goto (-15), 3) := by decide +kernel
theorem dX10_fits_99 : decode cX10_fits 99 = .ok (.aload_n 0, 1) := by decide +kernel
theorem dX10_fits_100 : decode cX10_fits 100 = .ok (.iload_n 3, 1) := by decide +kernel
theorem dX10_fits_101 : decode cX10_fits 101 = .ok (.iload_n 1, 1) := by decide +kernel
theorem dX10_fits_102 : decode cX10_fits 102 = .ok (.invokevirtual 214, 3) := by decide +kernel
theorem dX10_fits_105 : decode cX10_fits 105 = .ok (.ifCond .eq (-82), 3) := by decide +kernel
theorem dX10_fits_108 : decode cX10_fits 108 = .ok (.iinc 3 1, 3) := by decide +kernel
theorem dX10_fits_111 : decode cX10_fits 111 = .ok (.goto (-88), 3) := by decide +kernel
theorem dX10_fits_114 : decode cX10_fits 114 = .ok (.iload_n 3, 1) := by decide +kernel
theorem dX10_fits_115 : decode cX10_fits 115 = .ok (.ifCond .lt 7, 3) := by decide +kernel
theorem dX10_fits_118 : decode cX10_fits 118 = .ok (.iconst 1, 1) := by decide +kernel
theorem dX10_fits_119 : decode cX10_fits 119 = .ok (.goto 4, 3) := by decide +kernel
theorem dX10_fits_122 : decode cX10_fits 122 = .ok (.iconst 0, 1) := by decide +kernel
theorem dX10_fits_123 : decode cX10_fits 123 = .ok (.ireturn, 1) := by decide +kernel
theorem zm_X10_fits : ZMv "ClassOfManyModel" yX10_fits cX10_fits 4 (some .boolean) 2 := ⟨kw_7_114, kw_7_113, kp_94, kw_1_10, by decide +kernel, by decide⟩
def zf_X10_fits_L2 (K21 : ZMem → Option (Int32 × ZMem)) : Nat → Int32 → ZMem → Option (Int32 × ZMem)
  | 0, _, _ => none
  | n2 + 1, v30, M31 =>
  (if (10 : Int32) ≤ v30 then (K21 M31) else zst M31 85 10 v30 (-1 : Int32) (fun M33 => (zf_X10_fits_L2 K21 n2 (v30 + (1 : Int32)) M33)))
def zf_X10_fits_L81 (a1 : Int32) (K23 : Int32 → Option (Int32 × ZMem)) : Nat → Int32 → Option (Int32 × ZMem)
  | 0, _ => none
  | n81 + 1, v46 =>
  (if v46 < 0 then (K23 v46) else zb1 (zf_X10_has a1 v46) (fun v48 => (if v48 = 0 then (zf_X10_fits_L81 a1 K23 n81 (v46 + (-1 : Int32))) else (K23 v46))))
def zf_X10_fits_L23 (a1 : Int32) (a2 : Int32) (n : Nat) (K114 : Int32 → ZMem → Option (Int32 × ZMem)) : Nat → Int32 → ZMem → Option (Int32 × ZMem)
  | 0, _, _ => none
  | n23 + 1, v35, M36 =>
  (if v35 < 0 then (K114 v35 M36) else zrd M36 78 73 (0 : Int32) (fun v39 => (if v39 ≤ v35 then (K114 v35 M36) else zb1 (zf_X10_has a1 v35) (fun v40 => (if v40 = 0 then (zf_X10_fits_L23 a1 a2 n K114 n23 (v35 + (1 : Int32)) M36) else zrd M36 85 10 v35 (fun v41 => zst M36 85 10 v35 (v41 + (1 : Int32)) (fun M42 => zrd M42 85 10 v35 (fun v43 => (if v43 < a2 then zb1 (zf_X10_isFree n v35 a1 M42) (fun v44 => (if v44 = 0 then (zf_X10_fits_L23 a1 a2 n K114 n23 v35 M42) else (zf_X10_fits_L23 a1 a2 n K114 n23 (v35 + (1 : Int32)) M42))) else zst M42 85 10 v35 (-1 : Int32) (fun M45 => (zf_X10_fits_L81 a1 (fun v49 => (zf_X10_fits_L23 a1 a2 n K114 n23 v49 M45)) n (v35 + (-1 : Int32)))))))))))))
def zf_X10_fits_j123 (M51 : ZMem) (v52 : Int32) : Option (Int32 × ZMem) :=
  zbz v52 (some (v52, M51))
def zf_X10_fits (n : Nat) (a1 : Int32) (a2 : Int32) (M : ZMem) : Option (Int32 × ZMem) :=
  (zf_X10_fits_L2 (fun M34 => (zf_X10_fits_L23 a1 a2 n (fun v50 M51 => (if v50 < 0 then (zf_X10_fits_j123 M51 (0 : Int32)) else (zf_X10_fits_j123 M51 (1 : Int32)))) n (0 : Int32) M34)) n (0 : Int32) M)
set_option maxHeartbeats 4000000 in
set_option maxRecDepth 100000 in
theorem zc_X10_fits {l : Launch} {D : va_G} {ad : Nat → Nat} {cA : Nat → ClassId} {n : Nat} {a1 : Int32} {a2 : Int32} {M : ZMem} {r : Int32} {M' : ZMem} (hf : zf_X10_fits n a1 a2 M = some (r, M')) : ZCt l D ad cA yX10_fits cX10_fits 4 (some .boolean) 3 [.ref (ad 77), .int a1, .int a2] M (some (.int r)) M' := by
  refine zct (by decide +kernel) (Nat.le_of_ble_eq_true rfl) (lv := [(0, .ref (ad 77)), (1, .int a1), (2, .int a2)]) rfl (fun E hl hD had hcA hN hC hR => ?_)
  subst hl; subst hD; subst had; subst hcA
  unfold zf_X10_fits at hf
  refine zw_iconst hC (v := (0 : Int32)) dX10_fits_0 (by decide) ?_
  refine zw_istore_n hC (lv' := [(3, .int (0 : Int32)), (0, .ref (zad E 77)), (1, .int a1), (2, .int a2)]) dX10_fits_1 rfl hN (by decide) rfl ?_
  have hL2 : ∀ (K21 : ZMem → Option (Int32 × ZMem)), (∀ (M32 : ZMem), K21 M32 = some (r, M') → ZW E 21 [(0, .ref (zad E 77)), (1, .int a1), (2, .int a2)] [] M32) → ∀ (n2 : Nat), ∀ (v30 : Int32), ∀ (M31 : ZMem), zf_X10_fits_L2 K21 n2 v30 M31 = some (r, M') → ZW E 2 [(0, .ref (zad E 77)), (1, .int a1), (2, .int a2), (3, .int v30)] [] M31 := by
    intro K21 hK21
    intro n2
    induction n2 with
    | zero => intro v30 M31 hf; rw [zf_X10_fits_L2] at hf; cases hf
    | succ n2 ih2 =>
      intro v30 M31 hf
      rw [zf_X10_fits_L2] at hf
      refine zw_iload_n hC dX10_fits_2 rfl 3 rfl ?_
      refine zw_bipush hC (v := (10 : Int32)) dX10_fits_3 (by decide) ?_
      refine zw_icmp_ge hC 21 hf dX10_fits_5 (by decide) (fun hf => ?_) (fun hf => ?_)
      · exact zw_sub [0, 1, 2] rfl (hK21 M31 hf)
      · refine zw_aload_n hC dX10_fits_8 rfl 0 rfl ?_
        refine zw_getr (k' := 85) hC zF_Model_part zk_77 rfl dX10_fits_9 kw_6_5 ?_
        refine zw_iload_n hC dX10_fits_12 rfl 3 rfl ?_
        refine zw_iconst hC (v := (-1 : Int32)) dX10_fits_13 (by decide) ?_
        refine zw_iast hC hf zk_85 dX10_fits_14 (fun M33 hf => ?_)
        refine zw_iinc hC (v := (1 : Int32)) (lv' := [(3, .int (v30 + (1 : Int32))), (0, .ref (zad E 77)), (1, .int a1), (2, .int a2)]) dX10_fits_15 3 rfl (by decide) hN (by decide) rfl ?_
        refine zw_goto hC 2 dX10_fits_18 (by decide) ?_
        exact zw_sub [1, 2, 3, 0] rfl (ih2 (v30 + (1 : Int32)) M33 hf)
  refine zw_sub [1, 2, 3, 0] rfl (hL2 _ ?_ n (0 : Int32) M hf)
  · intro M34 hf
    refine zw_iconst hC (v := (0 : Int32)) dX10_fits_21 (by decide) ?_
    refine zw_istore_n hC (lv' := [(3, .int (0 : Int32)), (0, .ref (zad E 77)), (1, .int a1), (2, .int a2)]) dX10_fits_22 rfl hN (by decide) rfl ?_
    have hL23 : ∀ (K114 : Int32 → ZMem → Option (Int32 × ZMem)), (∀ (v37 : Int32), ∀ (M38 : ZMem), K114 v37 M38 = some (r, M') → ZW E 114 [(3, .int v37)] [] M38) → ∀ (n23 : Nat), ∀ (v35 : Int32), ∀ (M36 : ZMem), zf_X10_fits_L23 a1 a2 n K114 n23 v35 M36 = some (r, M') → ZW E 23 [(0, .ref (zad E 77)), (1, .int a1), (2, .int a2), (3, .int v35)] [] M36 := by
      intro K114 hK114
      intro n23
      induction n23 with
      | zero => intro v35 M36 hf; rw [zf_X10_fits_L23] at hf; cases hf
      | succ n23 ih23 =>
        intro v35 M36 hf
        rw [zf_X10_fits_L23] at hf
        refine zw_iload_n hC dX10_fits_23 rfl 3 rfl ?_
        refine zw_if_lt hC 114 hf dX10_fits_24 (by decide) (fun hf => ?_) (fun hf => ?_)
        · exact zw_sub [3] rfl (hK114 v35 M36 hf)
        · refine zw_iload_n hC dX10_fits_27 rfl 3 rfl ?_
          refine zw_aload_n hC dX10_fits_28 rfl 0 rfl ?_
          refine zw_getr (k' := 78) hC zF_Model_now zk_77 rfl dX10_fits_29 kw_5_227 ?_
          refine zw_iconst hC (v := (0 : Int32)) dX10_fits_32 (by decide) ?_
          refine zw_iald hC hf zk_78 dX10_fits_33 (fun v39 hf => ?_)
          refine zw_icmp_ge hC 114 hf dX10_fits_34 (by decide) (fun hf => ?_) (fun hf => ?_)
          · exact zw_sub [3] rfl (hK114 v35 M36 hf)
          · refine zw_iload_n hC dX10_fits_37 rfl 1 rfl ?_
            refine zw_iload_n hC dX10_fits_38 rfl 3 rfl ?_
            obtain ⟨v40, hc40, hf⟩ := zb1_some hf
            refine zw_cS hC [.int a1, .int v35] [] (st1 := [.int v40]) zm_X10_has (zc_X10_has hc40) kw_6_150 dX10_fits_39 rfl (by decide) (Nat.le_of_ble_eq_true rfl) rfl rfl ?_
            refine zw_if_ne hC 51 hf dX10_fits_42 (by decide) (fun hf => ?_) (fun hf => ?_)
            · refine zw_aload_n hC dX10_fits_51 rfl 0 rfl ?_
              refine zw_getr (k' := 85) hC zF_Model_part zk_77 rfl dX10_fits_52 kw_6_5 ?_
              refine zw_iload_n hC dX10_fits_55 rfl 3 rfl ?_
              refine zw_dup2 hC dX10_fits_56 rfl rfl ?_
              refine zw_iald hC hf zk_85 dX10_fits_57 (fun v41 hf => ?_)
              refine zw_iconst hC (v := (1 : Int32)) dX10_fits_58 (by decide) ?_
              refine zw_iadd hC dX10_fits_59 ?_
              refine zw_iast hC hf zk_85 dX10_fits_60 (fun M42 hf => ?_)
              refine zw_aload_n hC dX10_fits_61 rfl 0 rfl ?_
              refine zw_getr (k' := 85) hC zF_Model_part zk_77 rfl dX10_fits_62 kw_6_5 ?_
              refine zw_iload_n hC dX10_fits_65 rfl 3 rfl ?_
              refine zw_iald hC hf zk_85 dX10_fits_66 (fun v43 hf => ?_)
              refine zw_iload_n hC dX10_fits_67 rfl 2 rfl ?_
              refine zw_icmp_lt hC 99 hf dX10_fits_68 (by decide) (fun hf => ?_) (fun hf => ?_)
              · refine zw_aload_n hC dX10_fits_99 rfl 0 rfl ?_
                refine zw_iload_n hC dX10_fits_100 rfl 3 rfl ?_
                refine zw_iload_n hC dX10_fits_101 rfl 1 rfl ?_
                obtain ⟨v44, hc44, hf⟩ := zb1_some hf
                refine zw_cV hC [.int v35, .int a1] [] (st1 := [.int v44]) zm_X10_isFree (zc_X10_isFree hc44) zk_77 rfl kw_7_115 dX10_fits_102 rfl (by decide) (Nat.le_of_ble_eq_true rfl) rfl rfl ?_
                refine zw_if_eq hC 23 hf dX10_fits_105 (by decide) (fun hf => ?_) (fun hf => ?_)
                · exact ih23 v35 M42 hf
                · refine zw_iinc hC (v := (1 : Int32)) (lv' := [(3, .int (v35 + (1 : Int32))), (0, .ref (zad E 77)), (1, .int a1), (2, .int a2)]) dX10_fits_108 3 rfl (by decide) hN (by decide) rfl ?_
                  refine zw_goto hC 23 dX10_fits_111 (by decide) ?_
                  exact zw_sub [1, 2, 3, 0] rfl (ih23 (v35 + (1 : Int32)) M42 hf)
              · refine zw_aload_n hC dX10_fits_71 rfl 0 rfl ?_
                refine zw_getr (k' := 85) hC zF_Model_part zk_77 rfl dX10_fits_72 kw_6_5 ?_
                refine zw_iload_n hC dX10_fits_75 rfl 3 rfl ?_
                refine zw_iconst hC (v := (-1 : Int32)) dX10_fits_76 (by decide) ?_
                refine zw_iast hC hf zk_85 dX10_fits_77 (fun M45 hf => ?_)
                refine zw_iinc hC (v := (-1 : Int32)) (lv' := [(3, .int (v35 + (-1 : Int32))), (0, .ref (zad E 77)), (1, .int a1), (2, .int a2)]) dX10_fits_78 3 rfl (by decide) hN (by decide) rfl ?_
                have hL81 : ∀ (K23 : Int32 → Option (Int32 × ZMem)), (∀ (v47 : Int32), K23 v47 = some (r, M') → ZW E 23 [(0, .ref (zad E 77)), (1, .int a1), (2, .int a2), (3, .int v47)] [] M45) → ∀ (n81 : Nat), ∀ (v46 : Int32), zf_X10_fits_L81 a1 K23 n81 v46 = some (r, M') → ZW E 81 [(0, .ref (zad E 77)), (1, .int a1), (2, .int a2), (3, .int v46)] [] M45 := by
                  intro K23 hK23
                  intro n81
                  induction n81 with
                  | zero => intro v46 hf; rw [zf_X10_fits_L81] at hf; cases hf
                  | succ n81 ih81 =>
                    intro v46 hf
                    rw [zf_X10_fits_L81] at hf
                    refine zw_iload_n hC dX10_fits_81 rfl 3 rfl ?_
                    refine zw_if_lt hC 23 hf dX10_fits_82 (by decide) (fun hf => ?_) (fun hf => ?_)
                    · exact hK23 v46 hf
                    · refine zw_iload_n hC dX10_fits_85 rfl 1 rfl ?_
                      refine zw_iload_n hC dX10_fits_86 rfl 3 rfl ?_
                      obtain ⟨v48, hc48, hf⟩ := zb1_some hf
                      refine zw_cS hC [.int a1, .int v46] [] (st1 := [.int v48]) zm_X10_has (zc_X10_has hc48) kw_6_150 dX10_fits_87 rfl (by decide) (Nat.le_of_ble_eq_true rfl) rfl rfl ?_
                      refine zw_if_ne hC 23 hf dX10_fits_90 (by decide) (fun hf => ?_) (fun hf => ?_)
                      · exact hK23 v46 hf
                      · refine zw_iinc hC (v := (-1 : Int32)) (lv' := [(3, .int (v46 + (-1 : Int32))), (0, .ref (zad E 77)), (1, .int a1), (2, .int a2)]) dX10_fits_93 3 rfl (by decide) hN (by decide) rfl ?_
                        refine zw_goto hC 81 dX10_fits_96 (by decide) ?_
                        exact zw_sub [1, 2, 3, 0] rfl (ih81 (v46 + (-1 : Int32)) hf)
                refine zw_sub [1, 2, 3, 0] rfl (hL81 _ ?_ n (v35 + (-1 : Int32)) hf)
                · intro v49 hf
                  exact ih23 v49 M45 hf
            · refine zw_iinc hC (v := (1 : Int32)) (lv' := [(3, .int (v35 + (1 : Int32))), (0, .ref (zad E 77)), (1, .int a1), (2, .int a2)]) dX10_fits_45 3 rfl (by decide) hN (by decide) rfl ?_
              refine zw_goto hC 23 dX10_fits_48 (by decide) ?_
              exact zw_sub [1, 2, 3, 0] rfl (ih23 (v35 + (1 : Int32)) M36 hf)
    refine zw_sub [1, 2, 3, 0] rfl (hL23 _ ?_ n (0 : Int32) M34 hf)
    · intro v50 M51 hf
      refine zw_iload_n hC dX10_fits_114 rfl 0 rfl ?_
      have hj123 : ∀ (v52 : Int32), zf_X10_fits_j123 M51 v52 = some (r, M') → ZW E 123 [] [.int v52] M51 := by
        intro v52 hf
        unfold zf_X10_fits_j123 at hf
        obtain ⟨hz, hf⟩ := zbz_some hf
        obtain ⟨h1, h2⟩ := Prod.mk.inj (Option.some.inj hf)
        subst h1; subst h2
        exact zw_zret hC hR hz dX10_fits_123
      refine zw_if_lt hC 122 hf dX10_fits_115 (by decide) (fun hf => ?_) (fun hf => ?_)
      · refine zw_iconst hC (v := (0 : Int32)) dX10_fits_122 (by decide) ?_
        exact zw_sub [] rfl (hj123 (0 : Int32) hf)
      · refine zw_iconst hC (v := (1 : Int32)) dX10_fits_118 (by decide) ?_
        refine zw_goto hC 123 dX10_fits_119 (by decide) ?_
        exact zw_sub [] rfl (hj123 (1 : Int32) hf)
/-! ClassOfManyModel.divides(I)V -/
theorem dX10_divides_0 : decode cX10_divides 0 = .ok (.aload_n 0, 1) := by decide +kernel
theorem dX10_divides_1 : decode cX10_divides 1 = .ok (.iconst 0, 1) := by decide +kernel
theorem dX10_divides_2 : decode cX10_divides 2 = .ok (.putfield 217, 3) := by decide +kernel
theorem dX10_divides_5 : decode cX10_divides 5 = .ok (.aload_n 0, 1) := by decide +kernel
theorem dX10_divides_6 : decode cX10_divides 6 = .ok (.iload_n 1, 1) := by decide +kernel
theorem dX10_divides_7 : decode cX10_divides 7 = .ok (.aload_n 0, 1) := by decide +kernel
theorem dX10_divides_8 : decode cX10_divides 8 = .ok (.getfield 217, 3) := by decide +kernel
theorem dX10_divides_11 : decode cX10_divides 11 = .ok (.invokevirtual 220, 3) := by decide +kernel
theorem dX10_divides_14 : decode cX10_divides 14 = .ok (.ifCond .ne 16, 3) := by decide +kernel
theorem dX10_divides_17 : decode cX10_divides 17 = .ok (.aload_n 0, 1) := by decide +kernel
theorem dX10_divides_18 : decode cX10_divides 18 = .ok (.dup, 1) := by decide +kernel
theorem dX10_divides_19 : decode cX10_divides 19 = .ok (.getfield 217, 3) := by decide +kernel
theorem dX10_divides_22 : decode cX10_divides 22 = .ok (.iconst 1, 1) := by decide +kernel
theorem dX10_divides_23 : decode cX10_divides 23 = .ok (.iadd, 1) := by decide +kernel
theorem dX10_divides_24 : decode cX10_divides 24 = .ok (.putfield 217, 3) := by decide +kernel
theorem dX10_divides_27 : decode cX10_divides 27 = .ok (.goto (-22), 3) := by decide +kernel
theorem dX10_divides_30 : decode cX10_divides 30 = .ok (.return_, 1) := by decide +kernel
theorem zm_X10_divides : ZMv "ClassOfManyModel" yX10_divides cX10_divides 2 (none) 1 := ⟨kw_7_110, kw_7_109, kp_93, kw_1_10, by decide +kernel, by decide⟩
def zf_X10_divides_L5 (n : Nat) (a1 : Int32) (K30 : ZMem → Option (ZMem)) : Nat → ZMem → Option (ZMem)
  | 0, _ => none
  | n5 + 1, M26 =>
  zb2 (zf_X10_fits n a1 (M26 77 20) M26) (fun v28 M29 => (if v28 = 0 then zput M29 77 20 ((M29 77 20) + (1 : Int32)) (fun M30 => (zf_X10_divides_L5 n a1 K30 n5 M30)) else (K30 M29)))
def zf_X10_divides (n : Nat) (a1 : Int32) (M : ZMem) : Option (ZMem) :=
  zput M 77 20 (0 : Int32) (fun M25 => (zf_X10_divides_L5 n a1 (fun M31 => some M31) n M25))
set_option maxHeartbeats 4000000 in
set_option maxRecDepth 100000 in
theorem zc_X10_divides {l : Launch} {D : va_G} {ad : Nat → Nat} {cA : Nat → ClassId} {n : Nat} {a1 : Int32} {M : ZMem} {M' : ZMem} (hf : zf_X10_divides n a1 M = some M') : ZCt l D ad cA yX10_divides cX10_divides 2 (none) 4 [.ref (ad 77), .int a1] M none M' := by
  refine zct (by decide +kernel) (Nat.le_of_ble_eq_true rfl) (lv := [(0, .ref (ad 77)), (1, .int a1)]) rfl (fun E hl hD had hcA hN hC hR => ?_)
  subst hl; subst hD; subst had; subst hcA
  unfold zf_X10_divides at hf
  refine zw_aload_n hC dX10_divides_0 rfl 0 rfl ?_
  refine zw_iconst hC (v := (0 : Int32)) dX10_divides_1 (by decide) ?_
  refine zw_puti hC hf zF_Model_parts zk_77 dX10_divides_2 kw_6_6 (fun M25 hf => ?_)
  have hL5 : ∀ (K30 : ZMem → Option (ZMem)), (∀ (M27 : ZMem), K30 M27 = some M' → ZW E 30 [] [] M27) → ∀ (n5 : Nat), ∀ (M26 : ZMem), zf_X10_divides_L5 n a1 K30 n5 M26 = some M' → ZW E 5 [(0, .ref (zad E 77)), (1, .int a1)] [] M26 := by
    intro K30 hK30
    intro n5
    induction n5 with
    | zero => intro M26 hf; rw [zf_X10_divides_L5] at hf; cases hf
    | succ n5 ih5 =>
      intro M26 hf
      rw [zf_X10_divides_L5] at hf
      refine zw_aload_n hC dX10_divides_5 rfl 0 rfl ?_
      refine zw_iload_n hC dX10_divides_6 rfl 1 rfl ?_
      refine zw_aload_n hC dX10_divides_7 rfl 0 rfl ?_
      refine zw_geti hC zF_Model_parts zk_77 dX10_divides_8 kw_6_6 ?_
      obtain ⟨v28, M29, hcM29, hf⟩ := zb2_some hf
      refine zw_cV hC [.int a1, .int (M26 77 20)] [] (st1 := [.int v28]) zm_X10_fits (zc_X10_fits hcM29) zk_77 rfl kw_7_111 dX10_divides_11 rfl (by decide) (Nat.le_of_ble_eq_true rfl) rfl rfl ?_
      refine zw_if_ne hC 30 hf dX10_divides_14 (by decide) (fun hf => ?_) (fun hf => ?_)
      · exact zw_sub [] rfl (hK30 M29 hf)
      · refine zw_aload_n hC dX10_divides_17 rfl 0 rfl ?_
        refine zw_dup hC dX10_divides_18 rfl ?_
        refine zw_geti hC zF_Model_parts zk_77 dX10_divides_19 kw_6_6 ?_
        refine zw_iconst hC (v := (1 : Int32)) dX10_divides_22 (by decide) ?_
        refine zw_iadd hC dX10_divides_23 ?_
        refine zw_puti hC hf zF_Model_parts zk_77 dX10_divides_24 kw_6_6 (fun M30 hf => ?_)
        refine zw_goto hC 5 dX10_divides_27 (by decide) ?_
        exact ih5 M30 hf
  refine hL5 _ ?_ n M25 hf
  · intro M31 hf
    have h1 := Option.some.inj hf
    subst h1
    exact zw_vret hC hR dX10_divides_30
/-! ClassOfManyModel.inNow()I -/
theorem dX10_inNow_0 : decode cX10_inNow 0 = .ok (.aload_n 0, 1) := by decide +kernel
theorem dX10_inNow_1 : decode cX10_inNow 1 = .ok (.invokevirtual 223, 3) := by decide +kernel
theorem dX10_inNow_4 : decode cX10_inNow 4 = .ok (.aload_n 0, 1) := by decide +kernel
theorem dX10_inNow_5 : decode cX10_inNow 5 = .ok (.getfield 7, 3) := by decide +kernel
theorem dX10_inNow_8 : decode cX10_inNow 8 = .ok (.bipush 12, 2) := by decide +kernel
theorem dX10_inNow_10 : decode cX10_inNow 10 = .ok (.iaload, 1) := by decide +kernel
theorem dX10_inNow_11 : decode cX10_inNow 11 = .ok (.iconst (-1), 1) := by decide +kernel
theorem dX10_inNow_12 : decode cX10_inNow 12 = .ok (.ixor, 1) := by decide +kernel
theorem dX10_inNow_13 : decode cX10_inNow 13 = .ok (.iand, 1) := by decide +kernel
theorem dX10_inNow_14 : decode cX10_inNow 14 = .ok (.ireturn, 1) := by decide +kernel
theorem zm_X10_inNow : ZMv "ClassOfManyModel" yX10_inNow cX10_inNow 1 (some .int) 0 := ⟨kw_7_106, kw_7_105, kp_92, kw_1_10, by decide +kernel, by decide⟩
def zf_X10_inNow (M : ZMem) : Option (Int32) :=
  zb1 (zf_X10_all M) (fun v23 => zrd M 78 73 (12 : Int32) (fun v24 => some (v23 &&& (v24 ^^^ (-1 : Int32)))))
set_option maxHeartbeats 4000000 in
set_option maxRecDepth 100000 in
theorem zc_X10_inNow {l : Launch} {D : va_G} {ad : Nat → Nat} {cA : Nat → ClassId} {M : ZMem} {r : Int32} (hf : zf_X10_inNow M = some r) : ZCt l D ad cA yX10_inNow cX10_inNow 1 (some .int) 2 [.ref (ad 77)] M (some (.int r)) M := by
  refine zct (by decide +kernel) (Nat.le_of_ble_eq_true rfl) (lv := [(0, .ref (ad 77))]) rfl (fun E hl hD had hcA hN hC hR => ?_)
  subst hl; subst hD; subst had; subst hcA
  unfold zf_X10_inNow at hf
  refine zw_aload_n hC dX10_inNow_0 rfl 0 rfl ?_
  obtain ⟨v23, hc23, hf⟩ := zb1_some hf
  refine zw_cV hC [] [] (st1 := [.int v23]) zm_X10_all (zc_X10_all hc23) zk_77 rfl kw_7_44 dX10_inNow_1 rfl (by decide) (Nat.le_of_ble_eq_true rfl) rfl rfl ?_
  refine zw_aload_n hC dX10_inNow_4 rfl 0 rfl ?_
  refine zw_getr (k' := 78) hC zF_Model_now zk_77 rfl dX10_inNow_5 kw_5_227 ?_
  refine zw_bipush hC (v := (12 : Int32)) dX10_inNow_8 (by decide) ?_
  refine zw_iald hC hf zk_78 dX10_inNow_10 (fun v24 hf => ?_)
  refine zw_iconst hC (v := (-1 : Int32)) dX10_inNow_11 (by decide) ?_
  refine zw_ixor hC dX10_inNow_12 ?_
  refine zw_iand hC dX10_inNow_13 ?_
  have h1 := Option.some.inj hf
  subst h1
  exact zw_iret hC hR dX10_inNow_14
/-! ClassOfManyModel.countedOf(I)I -/
theorem dX10_countedOf_0 : decode cX10_countedOf 0 = .ok (.iconst 0, 1) := by decide +kernel
theorem dX10_countedOf_1 : decode cX10_countedOf 1 = .ok (.istore_n 2, 1) := by decide +kernel
theorem dX10_countedOf_2 : decode cX10_countedOf 2 = .ok (.iconst 0, 1) := by decide +kernel
theorem dX10_countedOf_3 : decode cX10_countedOf 3 = .ok (.istore_n 3, 1) := by decide +kernel
theorem dX10_countedOf_4 : decode cX10_countedOf 4 = .ok (.iload_n 3, 1) := by decide +kernel
theorem dX10_countedOf_5 : decode cX10_countedOf 5 = .ok (.aload_n 0, 1) := by decide +kernel
theorem dX10_countedOf_6 : decode cX10_countedOf 6 = .ok (.getfield 7, 3) := by decide +kernel
theorem dX10_countedOf_9 : decode cX10_countedOf 9 = .ok (.iconst 0, 1) := by decide +kernel
theorem dX10_countedOf_10 : decode cX10_countedOf 10 = .ok (.iaload, 1) := by decide +kernel
theorem dX10_countedOf_11 : decode cX10_countedOf 11 = .ok (.if_icmp .ge 35, 3) := by decide +kernel
theorem dX10_countedOf_14 : decode cX10_countedOf 14 = .ok (.iload_n 2, 1) := by decide +kernel
theorem dX10_countedOf_15 : decode cX10_countedOf 15 = .ok (.iload_n 1, 1) := by decide +kernel
theorem dX10_countedOf_16 : decode cX10_countedOf 16 = .ok (.iload_n 3, 1) := by decide +kernel
theorem dX10_countedOf_17 : decode cX10_countedOf 17 = .ok (.invokestatic 118, 3) := by decide +kernel
theorem dX10_countedOf_20 : decode cX10_countedOf 20 = .ok (.ifCond .eq 17, 3) := by decide +kernel
theorem dX10_countedOf_23 : decode cX10_countedOf 23 = .ok (.aload_n 0, 1) := by decide +kernel
theorem dX10_countedOf_24 : decode cX10_countedOf 24 = .ok (.iload_n 3, 1) := by decide +kernel
theorem dX10_countedOf_25 : decode cX10_countedOf 25 = .ok (.invokevirtual 211, 3) := by decide +kernel
theorem dX10_countedOf_28 : decode cX10_countedOf 28 = .ok (.ifCond .le 9, 3) := by decide +kernel
theorem dX10_countedOf_31 : decode cX10_countedOf 31 = .ok (.iconst 1, 1) := by decide +kernel
theorem dX10_countedOf_32 : decode cX10_countedOf 32 = .ok (.iload_n 3, 1) := by decide +kernel
theorem dX10_countedOf_33 : decode cX10_countedOf 33 = .ok (.ishl, 1) := by decide +kernel
theorem dX10_countedOf_34 : decode cX10_countedOf 34 = .ok (.goto 4, 3) := by decide +kernel
theorem dX10_countedOf_37 : decode cX10_countedOf 37 = .ok (.iconst 0, 1) := by decide +kernel
theorem dX10_countedOf_38 : decode cX10_countedOf 38 = .ok (.ior, 1) := by decide +kernel
theorem dX10_countedOf_39 : decode cX10_countedOf 39 = .ok (.istore_n 2, 1) := by decide +kernel
theorem dX10_countedOf_40 : decode cX10_countedOf 40 = .ok (.iinc 3 1, 3) := by decide +kernel
theorem dX10_countedOf_43 : decode cX10_countedOf 43 = .ok (.goto (-39), 3) := by decide +kernel
theorem dX10_countedOf_46 : decode cX10_countedOf 46 = .ok (.iload_n 2, 1) := by decide +kernel
theorem dX10_countedOf_47 : decode cX10_countedOf 47 = .ok (.ireturn, 1) := by decide +kernel
theorem zm_X10_countedOf : ZMv "ClassOfManyModel" yX10_countedOf cX10_countedOf 4 (some .int) 1 := ⟨kw_7_189, kw_7_188, kp_101, kw_1_10, by decide +kernel, by decide⟩
def zf_X10_countedOf_j38 (R4 : Int32 → Int32 → Option (Int32)) (v24 : Int32) (v25 : Int32) (v29 : Int32) : Option (Int32) :=
  (R4 (v24 ||| v29) (v25 + (1 : Int32)))
def zf_X10_countedOf_j37 (R4 : Int32 → Int32 → Option (Int32)) (v24 : Int32) (v25 : Int32) : Option (Int32) :=
  (zf_X10_countedOf_j38 R4 v24 v25 (0 : Int32))
def zf_X10_countedOf_L4 (M : ZMem) (a1 : Int32) (K46 : Int32 → Option (Int32)) : Nat → Int32 → Int32 → Option (Int32)
  | 0, _, _ => none
  | n4 + 1, v24, v25 =>
  zrd M 78 73 (0 : Int32) (fun v27 => (if v27 ≤ v25 then (K46 v24) else zb1 (zf_X10_has a1 v25) (fun v28 => (if v28 = 0 then (zf_X10_countedOf_j37 (fun x0 x1 => zf_X10_countedOf_L4 M a1 K46 n4 x0 x1) v24 v25) else zb1 (zf_X10_claim v25 M) (fun v30 => (if v30 ≤ 0 then (zf_X10_countedOf_j37 (fun x0 x1 => zf_X10_countedOf_L4 M a1 K46 n4 x0 x1) v24 v25) else (zf_X10_countedOf_j38 (fun x0 x1 => zf_X10_countedOf_L4 M a1 K46 n4 x0 x1) v24 v25 ((1 : Int32) <<< (v25 &&& 31)))))))))
def zf_X10_countedOf (n : Nat) (a1 : Int32) (M : ZMem) : Option (Int32) :=
  (zf_X10_countedOf_L4 M a1 (fun v31 => some v31) n (0 : Int32) (0 : Int32))
set_option maxHeartbeats 4000000 in
set_option maxRecDepth 100000 in
theorem zc_X10_countedOf {l : Launch} {D : va_G} {ad : Nat → Nat} {cA : Nat → ClassId} {n : Nat} {a1 : Int32} {M : ZMem} {r : Int32} (hf : zf_X10_countedOf n a1 M = some r) : ZCt l D ad cA yX10_countedOf cX10_countedOf 4 (some .int) 3 [.ref (ad 77), .int a1] M (some (.int r)) M := by
  refine zct (by decide +kernel) (Nat.le_of_ble_eq_true rfl) (lv := [(0, .ref (ad 77)), (1, .int a1)]) rfl (fun E hl hD had hcA hN hC hR => ?_)
  subst hl; subst hD; subst had; subst hcA
  unfold zf_X10_countedOf at hf
  refine zw_iconst hC (v := (0 : Int32)) dX10_countedOf_0 (by decide) ?_
  refine zw_istore_n hC (lv' := [(2, .int (0 : Int32)), (0, .ref (zad E 77)), (1, .int a1)]) dX10_countedOf_1 rfl hN (by decide) rfl ?_
  refine zw_iconst hC (v := (0 : Int32)) dX10_countedOf_2 (by decide) ?_
  refine zw_istore_n hC (lv' := [(3, .int (0 : Int32)), (2, .int (0 : Int32)), (0, .ref (zad E 77)), (1, .int a1)]) dX10_countedOf_3 rfl hN (by decide) rfl ?_
  have hL4 : ∀ (K46 : Int32 → Option (Int32)), (∀ (v26 : Int32), K46 v26 = some r → ZW E 46 [(2, .int v26)] [] M) → ∀ (n4 : Nat), ∀ (v24 : Int32), ∀ (v25 : Int32), zf_X10_countedOf_L4 M a1 K46 n4 v24 v25 = some r → ZW E 4 [(0, .ref (zad E 77)), (1, .int a1), (2, .int v24), (3, .int v25)] [] M := by
    intro K46 hK46
    intro n4
    induction n4 with
    | zero => intro v24 v25 hf; rw [zf_X10_countedOf_L4] at hf; cases hf
    | succ n4 ih4 =>
      intro v24 v25 hf
      rw [zf_X10_countedOf_L4] at hf
      refine zw_iload_n hC dX10_countedOf_4 rfl 3 rfl ?_
      refine zw_aload_n hC dX10_countedOf_5 rfl 0 rfl ?_
      refine zw_getr (k' := 78) hC zF_Model_now zk_77 rfl dX10_countedOf_6 kw_5_227 ?_
      refine zw_iconst hC (v := (0 : Int32)) dX10_countedOf_9 (by decide) ?_
      refine zw_iald hC hf zk_78 dX10_countedOf_10 (fun v27 hf => ?_)
      refine zw_icmp_ge hC 46 hf dX10_countedOf_11 (by decide) (fun hf => ?_) (fun hf => ?_)
      · exact zw_sub [2] rfl (hK46 v24 hf)
      · refine zw_iload_n hC dX10_countedOf_14 rfl 2 rfl ?_
        refine zw_iload_n hC dX10_countedOf_15 rfl 1 rfl ?_
        refine zw_iload_n hC dX10_countedOf_16 rfl 3 rfl ?_
        obtain ⟨v28, hc28, hf⟩ := zb1_some hf
        refine zw_cS hC [.int a1, .int v25] [.int v24] (st1 := [.int v28, .int v24]) zm_X10_has (zc_X10_has hc28) kw_6_150 dX10_countedOf_17 rfl (by decide) (Nat.le_of_ble_eq_true rfl) rfl rfl ?_
        have hj38 : ∀ (v29 : Int32), zf_X10_countedOf_j38 (fun x0 x1 => zf_X10_countedOf_L4 M a1 K46 n4 x0 x1) v24 v25 v29 = some r → ZW E 38 [(0, .ref (zad E 77)), (1, .int a1), (3, .int v25)] [.int v29, .int v24] M := by
          intro v29 hf
          unfold zf_X10_countedOf_j38 at hf
          refine zw_ior hC dX10_countedOf_38 ?_
          refine zw_istore_n hC (lv' := [(2, .int (v24 ||| v29)), (0, .ref (zad E 77)), (1, .int a1), (3, .int v25)]) dX10_countedOf_39 rfl hN (by decide) rfl ?_
          refine zw_iinc hC (v := (1 : Int32)) (lv' := [(3, .int (v25 + (1 : Int32))), (2, .int (v24 ||| v29)), (0, .ref (zad E 77)), (1, .int a1)]) dX10_countedOf_40 3 rfl (by decide) hN (by decide) rfl ?_
          refine zw_goto hC 4 dX10_countedOf_43 (by decide) ?_
          exact zw_sub [2, 3, 1, 0] rfl (ih4 (v24 ||| v29) (v25 + (1 : Int32)) hf)
        have hj37 : zf_X10_countedOf_j37 (fun x0 x1 => zf_X10_countedOf_L4 M a1 K46 n4 x0 x1) v24 v25 = some r → ZW E 37 [(0, .ref (zad E 77)), (1, .int a1), (3, .int v25)] [.int v24] M := by
          intro  hf
          unfold zf_X10_countedOf_j37 at hf
          refine zw_iconst hC (v := (0 : Int32)) dX10_countedOf_37 (by decide) ?_
          exact hj38 (0 : Int32) hf
        refine zw_if_eq hC 37 hf dX10_countedOf_20 (by decide) (fun hf => ?_) (fun hf => ?_)
        · exact zw_sub [0, 1, 3] rfl (hj37 hf)
        · refine zw_aload_n hC dX10_countedOf_23 rfl 0 rfl ?_
          refine zw_iload_n hC dX10_countedOf_24 rfl 3 rfl ?_
          obtain ⟨v30, hc30, hf⟩ := zb1_some hf
          refine zw_cV hC [.int v25] [.int v24] (st1 := [.int v30, .int v24]) zm_X10_claim (zc_X10_claim hc30) zk_77 rfl kw_7_52 dX10_countedOf_25 rfl (by decide) (Nat.le_of_ble_eq_true rfl) rfl rfl ?_
          refine zw_if_le hC 37 hf dX10_countedOf_28 (by decide) (fun hf => ?_) (fun hf => ?_)
          · exact zw_sub [0, 1, 3] rfl (hj37 hf)
          · refine zw_iconst hC (v := (1 : Int32)) dX10_countedOf_31 (by decide) ?_
            refine zw_iload_n hC dX10_countedOf_32 rfl 3 rfl ?_
            refine zw_ishl hC dX10_countedOf_33 ?_
            refine zw_goto hC 38 dX10_countedOf_34 (by decide) ?_
            exact zw_sub [0, 1, 3] rfl (hj38 ((1 : Int32) <<< (v25 &&& 31)) hf)
  refine zw_sub [2, 3, 1, 0] rfl (hL4 _ ?_ n (0 : Int32) (0 : Int32) hf)
  · intro v31 hf
    refine zw_iload_n hC dX10_countedOf_46 rfl 0 rfl ?_
    have h1 := Option.some.inj hf
    subst h1
    exact zw_iret hC hR dX10_countedOf_47
/-! ClassOfManyModel.setsNow()V -/
theorem dX10_setsNow_0 : decode cX10_setsNow 0 = .ok (.aload_n 0, 1) := by decide +kernel
theorem dX10_setsNow_1 : decode cX10_setsNow 1 = .ok (.aload_n 0, 1) := by decide +kernel
theorem dX10_setsNow_2 : decode cX10_setsNow 2 = .ok (.invokevirtual 226, 3) := by decide +kernel
theorem dX10_setsNow_5 : decode cX10_setsNow 5 = .ok (.putfield 229, 3) := by decide +kernel
theorem dX10_setsNow_8 : decode cX10_setsNow 8 = .ok (.aload_n 0, 1) := by decide +kernel
theorem dX10_setsNow_9 : decode cX10_setsNow 9 = .ok (.aload_n 0, 1) := by decide +kernel
theorem dX10_setsNow_10 : decode cX10_setsNow 10 = .ok (.aload_n 0, 1) := by decide +kernel
theorem dX10_setsNow_11 : decode cX10_setsNow 11 = .ok (.getfield 229, 3) := by decide +kernel
theorem dX10_setsNow_14 : decode cX10_setsNow 14 = .ok (.aload_n 0, 1) := by decide +kernel
theorem dX10_setsNow_15 : decode cX10_setsNow 15 = .ok (.getfield 7, 3) := by decide +kernel
theorem dX10_setsNow_18 : decode cX10_setsNow 18 = .ok (.bipush 13, 2) := by decide +kernel
theorem dX10_setsNow_20 : decode cX10_setsNow 20 = .ok (.iaload, 1) := by decide +kernel
theorem dX10_setsNow_21 : decode cX10_setsNow 21 = .ok (.iand, 1) := by decide +kernel
theorem dX10_setsNow_22 : decode cX10_setsNow 22 = .ok (.invokevirtual 232, 3) := by decide +kernel
theorem dX10_setsNow_25 : decode cX10_setsNow 25 = .ok (.putfield 235, 3) := by decide +kernel
theorem dX10_setsNow_28 : decode cX10_setsNow 28 = .ok (.aload_n 0, 1) := by decide +kernel
theorem dX10_setsNow_29 : decode cX10_setsNow 29 = .ok (.aload_n 0, 1) := by decide +kernel
theorem dX10_setsNow_30 : decode cX10_setsNow 30 = .ok (.getfield 7, 3) := by decide +kernel
theorem dX10_setsNow_33 : decode cX10_setsNow 33 = .ok (.bipush 14, 2) := by decide +kernel
theorem dX10_setsNow_35 : decode cX10_setsNow 35 = .ok (.iaload, 1) := by decide +kernel
theorem dX10_setsNow_36 : decode cX10_setsNow 36 = .ok (.putfield 238, 3) := by decide +kernel
theorem dX10_setsNow_39 : decode cX10_setsNow 39 = .ok (.aload_n 0, 1) := by decide +kernel
theorem dX10_setsNow_40 : decode cX10_setsNow 40 = .ok (.aload_n 0, 1) := by decide +kernel
theorem dX10_setsNow_41 : decode cX10_setsNow 41 = .ok (.getfield 7, 3) := by decide +kernel
theorem dX10_setsNow_44 : decode cX10_setsNow 44 = .ok (.iconst 2, 1) := by decide +kernel
theorem dX10_setsNow_45 : decode cX10_setsNow 45 = .ok (.iaload, 1) := by decide +kernel
theorem dX10_setsNow_46 : decode cX10_setsNow 46 = .ok (.putfield 241, 3) := by decide +kernel
theorem dX10_setsNow_49 : decode cX10_setsNow 49 = .ok (.aload_n 0, 1) := by decide +kernel
theorem dX10_setsNow_50 : decode cX10_setsNow 50 = .ok (.aload_n 0, 1) := by decide +kernel
theorem dX10_setsNow_51 : decode cX10_setsNow 51 = .ok (.getfield 7, 3) := by decide +kernel
theorem dX10_setsNow_54 : decode cX10_setsNow 54 = .ok (.bipush 9, 2) := by decide +kernel
theorem dX10_setsNow_56 : decode cX10_setsNow 56 = .ok (.iaload, 1) := by decide +kernel
theorem dX10_setsNow_57 : decode cX10_setsNow 57 = .ok (.putfield 244, 3) := by decide +kernel
theorem dX10_setsNow_60 : decode cX10_setsNow 60 = .ok (.aload_n 0, 1) := by decide +kernel
theorem dX10_setsNow_61 : decode cX10_setsNow 61 = .ok (.aload_n 0, 1) := by decide +kernel
theorem dX10_setsNow_62 : decode cX10_setsNow 62 = .ok (.getfield 229, 3) := by decide +kernel
theorem dX10_setsNow_65 : decode cX10_setsNow 65 = .ok (.invokevirtual 247, 3) := by decide +kernel
theorem dX10_setsNow_68 : decode cX10_setsNow 68 = .ok (.return_, 1) := by decide +kernel
theorem zm_X10_setsNow : ZMv "ClassOfManyModel" yX10_setsNow cX10_setsNow 1 (none) 0 := ⟨kw_7_185, kw_7_184, kp_100, kw_1_10, by decide +kernel, by decide⟩
def zf_X10_setsNow (n : Nat) (M : ZMem) : Option (ZMem) :=
  zb1 (zf_X10_inNow M) (fun v33 => zput M 77 21 v33 (fun M34 => zrd M34 78 73 (13 : Int32) (fun v35 => zb1 (zf_X10_countedOf n ((M34 77 21) &&& v35) M34) (fun v36 => zput M34 77 22 v36 (fun M37 => zrd M37 78 73 (14 : Int32) (fun v38 => zput M37 77 23 v38 (fun M39 => zrd M39 78 73 (2 : Int32) (fun v40 => zput M39 77 24 v40 (fun M41 => zrd M41 78 73 (9 : Int32) (fun v42 => zput M41 77 25 v42 (fun M43 => zb1 (zf_X10_divides n (M43 77 21) M43) (fun M44 => some M44))))))))))))
set_option maxHeartbeats 4000000 in
set_option maxRecDepth 100000 in
theorem zc_X10_setsNow {l : Launch} {D : va_G} {ad : Nat → Nat} {cA : Nat → ClassId} {n : Nat} {M : ZMem} {M' : ZMem} (hf : zf_X10_setsNow n M = some M') : ZCt l D ad cA yX10_setsNow cX10_setsNow 1 (none) 5 [.ref (ad 77)] M none M' := by
  refine zct (by decide +kernel) (Nat.le_of_ble_eq_true rfl) (lv := [(0, .ref (ad 77))]) rfl (fun E hl hD had hcA hN hC hR => ?_)
  subst hl; subst hD; subst had; subst hcA
  unfold zf_X10_setsNow at hf
  refine zw_aload_n hC dX10_setsNow_0 rfl 0 rfl ?_
  refine zw_aload_n hC dX10_setsNow_1 rfl 0 rfl ?_
  obtain ⟨v33, hc33, hf⟩ := zb1_some hf
  refine zw_cV hC [] [.ref (zad E 77)] (st1 := [.int v33, .ref (zad E 77)]) zm_X10_inNow (zc_X10_inNow hc33) zk_77 rfl kw_7_103 dX10_setsNow_2 rfl (by decide) (Nat.le_of_ble_eq_true rfl) rfl rfl ?_
  refine zw_puti hC hf zF_Model_nowIn zk_77 dX10_setsNow_5 kw_6_7 (fun M34 hf => ?_)
  refine zw_aload_n hC dX10_setsNow_8 rfl 0 rfl ?_
  refine zw_aload_n hC dX10_setsNow_9 rfl 0 rfl ?_
  refine zw_aload_n hC dX10_setsNow_10 rfl 0 rfl ?_
  refine zw_geti hC zF_Model_nowIn zk_77 dX10_setsNow_11 kw_6_7 ?_
  refine zw_aload_n hC dX10_setsNow_14 rfl 0 rfl ?_
  refine zw_getr (k' := 78) hC zF_Model_now zk_77 rfl dX10_setsNow_15 kw_5_227 ?_
  refine zw_bipush hC (v := (13 : Int32)) dX10_setsNow_18 (by decide) ?_
  refine zw_iald hC hf zk_78 dX10_setsNow_20 (fun v35 hf => ?_)
  refine zw_iand hC dX10_setsNow_21 ?_
  obtain ⟨v36, hc36, hf⟩ := zb1_some hf
  refine zw_cV hC [.int ((M34 77 21) &&& v35)] [.ref (zad E 77)] (st1 := [.int v36, .ref (zad E 77)]) zm_X10_countedOf (zc_X10_countedOf hc36) zk_77 rfl kw_7_186 dX10_setsNow_22 rfl (by decide) (Nat.le_of_ble_eq_true rfl) rfl rfl ?_
  refine zw_puti hC hf zF_Model_nowCounted zk_77 dX10_setsNow_25 kw_6_8 (fun M37 hf => ?_)
  refine zw_aload_n hC dX10_setsNow_28 rfl 0 rfl ?_
  refine zw_aload_n hC dX10_setsNow_29 rfl 0 rfl ?_
  refine zw_getr (k' := 78) hC zF_Model_now zk_77 rfl dX10_setsNow_30 kw_5_227 ?_
  refine zw_bipush hC (v := (14 : Int32)) dX10_setsNow_33 (by decide) ?_
  refine zw_iald hC hf zk_78 dX10_setsNow_35 (fun v38 hf => ?_)
  refine zw_puti hC hf zF_Model_nowLazy zk_77 dX10_setsNow_36 kw_6_9 (fun M39 hf => ?_)
  refine zw_aload_n hC dX10_setsNow_39 rfl 0 rfl ?_
  refine zw_aload_n hC dX10_setsNow_40 rfl 0 rfl ?_
  refine zw_getr (k' := 78) hC zF_Model_now zk_77 rfl dX10_setsNow_41 kw_5_227 ?_
  refine zw_iconst hC (v := (2 : Int32)) dX10_setsNow_44 (by decide) ?_
  refine zw_iald hC hf zk_78 dX10_setsNow_45 (fun v40 hf => ?_)
  refine zw_puti hC hf zF_Model_nowFund zk_77 dX10_setsNow_46 kw_6_10 (fun M41 hf => ?_)
  refine zw_aload_n hC dX10_setsNow_49 rfl 0 rfl ?_
  refine zw_aload_n hC dX10_setsNow_50 rfl 0 rfl ?_
  refine zw_getr (k' := 78) hC zF_Model_now zk_77 rfl dX10_setsNow_51 kw_5_227 ?_
  refine zw_bipush hC (v := (9 : Int32)) dX10_setsNow_54 (by decide) ?_
  refine zw_iald hC hf zk_78 dX10_setsNow_56 (fun v42 hf => ?_)
  refine zw_puti hC hf zF_Model_nowRule zk_77 dX10_setsNow_57 kw_6_11 (fun M43 hf => ?_)
  refine zw_aload_n hC dX10_setsNow_60 rfl 0 rfl ?_
  refine zw_aload_n hC dX10_setsNow_61 rfl 0 rfl ?_
  refine zw_geti hC zF_Model_nowIn zk_77 dX10_setsNow_62 kw_6_7 ?_
  obtain ⟨M44, hcM44, hf⟩ := zb1_some hf
  refine zw_cV hC [.int (M43 77 21)] [] (st1 := []) zm_X10_divides (zc_X10_divides hcM44) zk_77 rfl kw_7_107 dX10_setsNow_65 rfl (by decide) (Nat.le_of_ble_eq_true rfl) rfl rfl ?_
  have h1 := Option.some.inj hf
  subst h1
  exact zw_vret hC hR dX10_setsNow_68
/-! ClassOfManyModel.net()I -/
theorem dX10_net_0 : decode cX10_net 0 = .ok (.aload_n 0, 1) := by decide +kernel
theorem dX10_net_1 : decode cX10_net 1 = .ok (.getfield 241, 3) := by decide +kernel
theorem dX10_net_4 : decode cX10_net 4 = .ok (.aload_n 0, 1) := by decide +kernel
theorem dX10_net_5 : decode cX10_net 5 = .ok (.invokevirtual 250, 3) := by decide +kernel
theorem dX10_net_8 : decode cX10_net 8 = .ok (.isub, 1) := by decide +kernel
theorem dX10_net_9 : decode cX10_net 9 = .ok (.aload_n 0, 1) := by decide +kernel
theorem dX10_net_10 : decode cX10_net 10 = .ok (.getfield 7, 3) := by decide +kernel
theorem dX10_net_13 : decode cX10_net 13 = .ok (.iconst 3, 1) := by decide +kernel
theorem dX10_net_14 : decode cX10_net 14 = .ok (.iaload, 1) := by decide +kernel
theorem dX10_net_15 : decode cX10_net 15 = .ok (.aload_n 0, 1) := by decide +kernel
theorem dX10_net_16 : decode cX10_net 16 = .ok (.getfield 241, 3) := by decide +kernel
theorem dX10_net_19 : decode cX10_net 19 = .ok (.imul, 1) := by decide +kernel
theorem dX10_net_20 : decode cX10_net 20 = .ok (.bipush 100, 2) := by decide +kernel
theorem dX10_net_22 : decode cX10_net 22 = .ok (.idiv, 1) := by decide +kernel
theorem dX10_net_23 : decode cX10_net 23 = .ok (.isub, 1) := by decide +kernel
theorem dX10_net_24 : decode cX10_net 24 = .ok (.istore_n 1, 1) := by decide +kernel
theorem dX10_net_25 : decode cX10_net 25 = .ok (.iload_n 1, 1) := by decide +kernel
theorem dX10_net_26 : decode cX10_net 26 = .ok (.ifCond .ge 7, 3) := by decide +kernel
theorem dX10_net_29 : decode cX10_net 29 = .ok (.iconst 0, 1) := by decide +kernel
theorem dX10_net_30 : decode cX10_net 30 = .ok (.goto 4, 3) := by decide +kernel
theorem dX10_net_33 : decode cX10_net 33 = .ok (.iload_n 1, 1) := by decide +kernel
theorem dX10_net_34 : decode cX10_net 34 = .ok (.ireturn, 1) := by decide +kernel
theorem zm_X10_net : ZMv "ClassOfManyModel" yX10_net cX10_net 2 (some .int) 0 := ⟨kw_7_197, kw_7_196, kp_103, kw_1_10, by decide +kernel, by decide⟩
def zf_X10_net_j34 (v25 : Int32) : Option (Int32) :=
  some v25
def zf_X10_net (n : Nat) (M : ZMem) : Option (Int32) :=
  zb1 (zf_X10_costs n M) (fun v23 => zrd M 78 73 (3 : Int32) (fun v24 => (if 0 ≤ (((M 77 24) - v23) - ((v24 * (M 77 24)) / (100 : Int32))) then (zf_X10_net_j34 (((M 77 24) - v23) - ((v24 * (M 77 24)) / (100 : Int32)))) else (zf_X10_net_j34 (0 : Int32)))))
set_option maxHeartbeats 4000000 in
set_option maxRecDepth 100000 in
theorem zc_X10_net {l : Launch} {D : va_G} {ad : Nat → Nat} {cA : Nat → ClassId} {n : Nat} {M : ZMem} {r : Int32} (hf : zf_X10_net n M = some r) : ZCt l D ad cA yX10_net cX10_net 2 (some .int) 4 [.ref (ad 77)] M (some (.int r)) M := by
  refine zct (by decide +kernel) (Nat.le_of_ble_eq_true rfl) (lv := [(0, .ref (ad 77))]) rfl (fun E hl hD had hcA hN hC hR => ?_)
  subst hl; subst hD; subst had; subst hcA
  unfold zf_X10_net at hf
  refine zw_aload_n hC dX10_net_0 rfl 0 rfl ?_
  refine zw_geti hC zF_Model_nowFund zk_77 dX10_net_1 kw_6_10 ?_
  refine zw_aload_n hC dX10_net_4 rfl 0 rfl ?_
  obtain ⟨v23, hc23, hf⟩ := zb1_some hf
  refine zw_cV hC [] [.int (M 77 24)] (st1 := [.int v23, .int (M 77 24)]) zm_X10_costs (zc_X10_costs hc23) zk_77 rfl kw_6_233 dX10_net_5 rfl (by decide) (Nat.le_of_ble_eq_true rfl) rfl rfl ?_
  refine zw_isub hC dX10_net_8 ?_
  refine zw_aload_n hC dX10_net_9 rfl 0 rfl ?_
  refine zw_getr (k' := 78) hC zF_Model_now zk_77 rfl dX10_net_10 kw_5_227 ?_
  refine zw_iconst hC (v := (3 : Int32)) dX10_net_13 (by decide) ?_
  refine zw_iald hC hf zk_78 dX10_net_14 (fun v24 hf => ?_)
  refine zw_aload_n hC dX10_net_15 rfl 0 rfl ?_
  refine zw_geti hC zF_Model_nowFund zk_77 dX10_net_16 kw_6_10 ?_
  refine zw_imul hC dX10_net_19 ?_
  refine zw_bipush hC (v := (100 : Int32)) dX10_net_20 (by decide) ?_
  refine zw_idivc hC dX10_net_22 (by decide) ?_
  refine zw_isub hC dX10_net_23 ?_
  refine zw_istore_n hC (lv' := [(1, .int (((M 77 24) - v23) - ((v24 * (M 77 24)) / (100 : Int32)))), (0, .ref (zad E 77))]) dX10_net_24 rfl hN (by decide) rfl ?_
  refine zw_iload_n hC dX10_net_25 rfl 0 rfl ?_
  have hj34 : ∀ (v25 : Int32), zf_X10_net_j34 v25 = some r → ZW E 34 [] [.int v25] M := by
    intro v25 hf
    unfold zf_X10_net_j34 at hf
    have h1 := Option.some.inj hf
    subst h1
    exact zw_iret hC hR dX10_net_34
  refine zw_if_ge hC 33 hf dX10_net_26 (by decide) (fun hf => ?_) (fun hf => ?_)
  · refine zw_iload_n hC dX10_net_33 rfl 0 rfl ?_
    exact zw_sub [] rfl (hj34 (((M 77 24) - v23) - ((v24 * (M 77 24)) / (100 : Int32))) hf)
  · refine zw_iconst hC (v := (0 : Int32)) dX10_net_29 (by decide) ?_
    refine zw_goto hC 34 dX10_net_30 (by decide) ?_
    exact zw_sub [] rfl (hj34 (0 : Int32) hf)
/-! ClassOfManyModel.countedIn(I)I -/
theorem dX10_countedIn_0 : decode cX10_countedIn 0 = .ok (.iconst 0, 1) := by decide +kernel
theorem dX10_countedIn_1 : decode cX10_countedIn 1 = .ok (.istore_n 2, 1) := by decide +kernel
theorem dX10_countedIn_2 : decode cX10_countedIn 2 = .ok (.iconst 0, 1) := by decide +kernel
theorem dX10_countedIn_3 : decode cX10_countedIn 3 = .ok (.istore_n 3, 1) := by decide +kernel
theorem dX10_countedIn_4 : decode cX10_countedIn 4 = .ok (.iload_n 3, 1) := by decide +kernel
theorem dX10_countedIn_5 : decode cX10_countedIn 5 = .ok (.aload_n 0, 1) := by decide +kernel
theorem dX10_countedIn_6 : decode cX10_countedIn 6 = .ok (.getfield 7, 3) := by decide +kernel
theorem dX10_countedIn_9 : decode cX10_countedIn 9 = .ok (.iconst 0, 1) := by decide +kernel
theorem dX10_countedIn_10 : decode cX10_countedIn 10 = .ok (.iaload, 1) := by decide +kernel
theorem dX10_countedIn_11 : decode cX10_countedIn 11 = .ok (.if_icmp .ge 40, 3) := by decide +kernel
theorem dX10_countedIn_14 : decode cX10_countedIn 14 = .ok (.iload_n 2, 1) := by decide +kernel
theorem dX10_countedIn_15 : decode cX10_countedIn 15 = .ok (.aload_n 0, 1) := by decide +kernel
theorem dX10_countedIn_16 : decode cX10_countedIn 16 = .ok (.getfield 235, 3) := by decide +kernel
theorem dX10_countedIn_19 : decode cX10_countedIn 19 = .ok (.iload_n 3, 1) := by decide +kernel
theorem dX10_countedIn_20 : decode cX10_countedIn 20 = .ok (.invokestatic 118, 3) := by decide +kernel
theorem dX10_countedIn_23 : decode cX10_countedIn 23 = .ok (.ifCond .eq 19, 3) := by decide +kernel
theorem dX10_countedIn_26 : decode cX10_countedIn 26 = .ok (.aload_n 0, 1) := by decide +kernel
theorem dX10_countedIn_27 : decode cX10_countedIn 27 = .ok (.getfield 31, 3) := by decide +kernel
theorem dX10_countedIn_30 : decode cX10_countedIn 30 = .ok (.iload_n 3, 1) := by decide +kernel
theorem dX10_countedIn_31 : decode cX10_countedIn 31 = .ok (.iaload, 1) := by decide +kernel
theorem dX10_countedIn_32 : decode cX10_countedIn 32 = .ok (.iload_n 1, 1) := by decide +kernel
theorem dX10_countedIn_33 : decode cX10_countedIn 33 = .ok (.if_icmp .ne 9, 3) := by decide +kernel
theorem dX10_countedIn_36 : decode cX10_countedIn 36 = .ok (.iconst 1, 1) := by decide +kernel
theorem dX10_countedIn_37 : decode cX10_countedIn 37 = .ok (.iload_n 3, 1) := by decide +kernel
theorem dX10_countedIn_38 : decode cX10_countedIn 38 = .ok (.ishl, 1) := by decide +kernel
theorem dX10_countedIn_39 : decode cX10_countedIn 39 = .ok (.goto 4, 3) := by decide +kernel
theorem dX10_countedIn_42 : decode cX10_countedIn 42 = .ok (.iconst 0, 1) := by decide +kernel
theorem dX10_countedIn_43 : decode cX10_countedIn 43 = .ok (.ior, 1) := by decide +kernel
theorem dX10_countedIn_44 : decode cX10_countedIn 44 = .ok (.istore_n 2, 1) := by decide +kernel
theorem dX10_countedIn_45 : decode cX10_countedIn 45 = .ok (.iinc 3 1, 3) := by decide +kernel
theorem dX10_countedIn_48 : decode cX10_countedIn 48 = .ok (.goto (-44), 3) := by decide +kernel
theorem dX10_countedIn_51 : decode cX10_countedIn 51 = .ok (.iload_n 2, 1) := by decide +kernel
theorem dX10_countedIn_52 : decode cX10_countedIn 52 = .ok (.ireturn, 1) := by decide +kernel
theorem zm_X10_countedIn : ZMv "ClassOfManyModel" yX10_countedIn cX10_countedIn 4 (some .int) 1 := ⟨kw_7_205, kw_7_204, kp_105, kw_1_10, by decide +kernel, by decide⟩
def zf_X10_countedIn_j43 (R4 : Int32 → Int32 → Option (Int32)) (v24 : Int32) (v25 : Int32) (v29 : Int32) : Option (Int32) :=
  (R4 (v24 ||| v29) (v25 + (1 : Int32)))
def zf_X10_countedIn_j42 (R4 : Int32 → Int32 → Option (Int32)) (v24 : Int32) (v25 : Int32) : Option (Int32) :=
  (zf_X10_countedIn_j43 R4 v24 v25 (0 : Int32))
def zf_X10_countedIn_L4 (M : ZMem) (a1 : Int32) (K51 : Int32 → Option (Int32)) : Nat → Int32 → Int32 → Option (Int32)
  | 0, _, _ => none
  | n4 + 1, v24, v25 =>
  zrd M 78 73 (0 : Int32) (fun v27 => (if v27 ≤ v25 then (K51 v24) else zb1 (zf_X10_has (M 77 22) v25) (fun v28 => (if v28 = 0 then (zf_X10_countedIn_j42 (fun x0 x1 => zf_X10_countedIn_L4 M a1 K51 n4 x0 x1) v24 v25) else zrd M 85 10 v25 (fun v30 => (if v30 = a1 then (zf_X10_countedIn_j43 (fun x0 x1 => zf_X10_countedIn_L4 M a1 K51 n4 x0 x1) v24 v25 ((1 : Int32) <<< (v25 &&& 31))) else (zf_X10_countedIn_j42 (fun x0 x1 => zf_X10_countedIn_L4 M a1 K51 n4 x0 x1) v24 v25)))))))
def zf_X10_countedIn (n : Nat) (a1 : Int32) (M : ZMem) : Option (Int32) :=
  (zf_X10_countedIn_L4 M a1 (fun v31 => some v31) n (0 : Int32) (0 : Int32))
set_option maxHeartbeats 4000000 in
set_option maxRecDepth 100000 in
theorem zc_X10_countedIn {l : Launch} {D : va_G} {ad : Nat → Nat} {cA : Nat → ClassId} {n : Nat} {a1 : Int32} {M : ZMem} {r : Int32} (hf : zf_X10_countedIn n a1 M = some r) : ZCt l D ad cA yX10_countedIn cX10_countedIn 4 (some .int) 2 [.ref (ad 77), .int a1] M (some (.int r)) M := by
  refine zct (by decide +kernel) (Nat.le_of_ble_eq_true rfl) (lv := [(0, .ref (ad 77)), (1, .int a1)]) rfl (fun E hl hD had hcA hN hC hR => ?_)
  subst hl; subst hD; subst had; subst hcA
  unfold zf_X10_countedIn at hf
  refine zw_iconst hC (v := (0 : Int32)) dX10_countedIn_0 (by decide) ?_
  refine zw_istore_n hC (lv' := [(2, .int (0 : Int32)), (0, .ref (zad E 77)), (1, .int a1)]) dX10_countedIn_1 rfl hN (by decide) rfl ?_
  refine zw_iconst hC (v := (0 : Int32)) dX10_countedIn_2 (by decide) ?_
  refine zw_istore_n hC (lv' := [(3, .int (0 : Int32)), (2, .int (0 : Int32)), (0, .ref (zad E 77)), (1, .int a1)]) dX10_countedIn_3 rfl hN (by decide) rfl ?_
  have hL4 : ∀ (K51 : Int32 → Option (Int32)), (∀ (v26 : Int32), K51 v26 = some r → ZW E 51 [(2, .int v26)] [] M) → ∀ (n4 : Nat), ∀ (v24 : Int32), ∀ (v25 : Int32), zf_X10_countedIn_L4 M a1 K51 n4 v24 v25 = some r → ZW E 4 [(0, .ref (zad E 77)), (1, .int a1), (2, .int v24), (3, .int v25)] [] M := by
    intro K51 hK51
    intro n4
    induction n4 with
    | zero => intro v24 v25 hf; rw [zf_X10_countedIn_L4] at hf; cases hf
    | succ n4 ih4 =>
      intro v24 v25 hf
      rw [zf_X10_countedIn_L4] at hf
      refine zw_iload_n hC dX10_countedIn_4 rfl 3 rfl ?_
      refine zw_aload_n hC dX10_countedIn_5 rfl 0 rfl ?_
      refine zw_getr (k' := 78) hC zF_Model_now zk_77 rfl dX10_countedIn_6 kw_5_227 ?_
      refine zw_iconst hC (v := (0 : Int32)) dX10_countedIn_9 (by decide) ?_
      refine zw_iald hC hf zk_78 dX10_countedIn_10 (fun v27 hf => ?_)
      refine zw_icmp_ge hC 51 hf dX10_countedIn_11 (by decide) (fun hf => ?_) (fun hf => ?_)
      · exact zw_sub [2] rfl (hK51 v24 hf)
      · refine zw_iload_n hC dX10_countedIn_14 rfl 2 rfl ?_
        refine zw_aload_n hC dX10_countedIn_15 rfl 0 rfl ?_
        refine zw_geti hC zF_Model_nowCounted zk_77 dX10_countedIn_16 kw_6_8 ?_
        refine zw_iload_n hC dX10_countedIn_19 rfl 3 rfl ?_
        obtain ⟨v28, hc28, hf⟩ := zb1_some hf
        refine zw_cS hC [.int (M 77 22), .int v25] [.int v24] (st1 := [.int v28, .int v24]) zm_X10_has (zc_X10_has hc28) kw_6_150 dX10_countedIn_20 rfl (by decide) (Nat.le_of_ble_eq_true rfl) rfl rfl ?_
        have hj43 : ∀ (v29 : Int32), zf_X10_countedIn_j43 (fun x0 x1 => zf_X10_countedIn_L4 M a1 K51 n4 x0 x1) v24 v25 v29 = some r → ZW E 43 [(0, .ref (zad E 77)), (1, .int a1), (3, .int v25)] [.int v29, .int v24] M := by
          intro v29 hf
          unfold zf_X10_countedIn_j43 at hf
          refine zw_ior hC dX10_countedIn_43 ?_
          refine zw_istore_n hC (lv' := [(2, .int (v24 ||| v29)), (0, .ref (zad E 77)), (1, .int a1), (3, .int v25)]) dX10_countedIn_44 rfl hN (by decide) rfl ?_
          refine zw_iinc hC (v := (1 : Int32)) (lv' := [(3, .int (v25 + (1 : Int32))), (2, .int (v24 ||| v29)), (0, .ref (zad E 77)), (1, .int a1)]) dX10_countedIn_45 3 rfl (by decide) hN (by decide) rfl ?_
          refine zw_goto hC 4 dX10_countedIn_48 (by decide) ?_
          exact zw_sub [2, 3, 1, 0] rfl (ih4 (v24 ||| v29) (v25 + (1 : Int32)) hf)
        have hj42 : zf_X10_countedIn_j42 (fun x0 x1 => zf_X10_countedIn_L4 M a1 K51 n4 x0 x1) v24 v25 = some r → ZW E 42 [(0, .ref (zad E 77)), (1, .int a1), (3, .int v25)] [.int v24] M := by
          intro  hf
          unfold zf_X10_countedIn_j42 at hf
          refine zw_iconst hC (v := (0 : Int32)) dX10_countedIn_42 (by decide) ?_
          exact hj43 (0 : Int32) hf
        refine zw_if_eq hC 42 hf dX10_countedIn_23 (by decide) (fun hf => ?_) (fun hf => ?_)
        · exact zw_sub [0, 1, 3] rfl (hj42 hf)
        · refine zw_aload_n hC dX10_countedIn_26 rfl 0 rfl ?_
          refine zw_getr (k' := 85) hC zF_Model_part zk_77 rfl dX10_countedIn_27 kw_6_5 ?_
          refine zw_iload_n hC dX10_countedIn_30 rfl 3 rfl ?_
          refine zw_iald hC hf zk_85 dX10_countedIn_31 (fun v30 hf => ?_)
          refine zw_iload_n hC dX10_countedIn_32 rfl 1 rfl ?_
          refine zw_icmp_ne hC 42 hf dX10_countedIn_33 (by decide) (fun hf => ?_) (fun hf => ?_)
          · exact zw_sub [0, 1, 3] rfl (hj42 hf)
          · refine zw_iconst hC (v := (1 : Int32)) dX10_countedIn_36 (by decide) ?_
            refine zw_iload_n hC dX10_countedIn_37 rfl 3 rfl ?_
            refine zw_ishl hC dX10_countedIn_38 ?_
            refine zw_goto hC 43 dX10_countedIn_39 (by decide) ?_
            exact zw_sub [0, 1, 3] rfl (hj43 ((1 : Int32) <<< (v25 &&& 31)) hf)
  refine zw_sub [2, 3, 1, 0] rfl (hL4 _ ?_ n (0 : Int32) (0 : Int32) hf)
  · intro v31 hf
    refine zw_iload_n hC dX10_countedIn_51 rfl 0 rfl ?_
    have h1 := Option.some.inj hf
    subst h1
    exact zw_iret hC hR dX10_countedIn_52
/-! ClassOfManyModel.potOf(I)I -/
theorem dX10_potOf_0 : decode cX10_potOf 0 = .ok (.aload_n 0, 1) := by decide +kernel
theorem dX10_potOf_1 : decode cX10_potOf 1 = .ok (.iload_n 1, 1) := by decide +kernel
theorem dX10_potOf_2 : decode cX10_potOf 2 = .ok (.invokevirtual 253, 3) := by decide +kernel
theorem dX10_potOf_5 : decode cX10_potOf 5 = .ok (.istore_n 2, 1) := by decide +kernel
theorem dX10_potOf_6 : decode cX10_potOf 6 = .ok (.iload_n 2, 1) := by decide +kernel
theorem dX10_potOf_7 : decode cX10_potOf 7 = .ok (.ifCond .ne 5, 3) := by decide +kernel
theorem dX10_potOf_10 : decode cX10_potOf 10 = .ok (.iconst 0, 1) := by decide +kernel
theorem dX10_potOf_11 : decode cX10_potOf 11 = .ok (.ireturn, 1) := by decide +kernel
theorem dX10_potOf_12 : decode cX10_potOf 12 = .ok (.aload_n 0, 1) := by decide +kernel
theorem dX10_potOf_13 : decode cX10_potOf 13 = .ok (.invokevirtual 256, 3) := by decide +kernel
theorem dX10_potOf_16 : decode cX10_potOf 16 = .ok (.i2l, 1) := by decide +kernel
theorem dX10_potOf_17 : decode cX10_potOf 17 = .ok (.lstore_n 3, 1) := by decide +kernel
theorem dX10_potOf_18 : decode cX10_potOf 18 = .ok (.aload_n 0, 1) := by decide +kernel
theorem dX10_potOf_19 : decode cX10_potOf 19 = .ok (.getfield 244, 3) := by decide +kernel
theorem dX10_potOf_22 : decode cX10_potOf 22 = .ok (.ifCond .ne 23, 3) := by decide +kernel
theorem dX10_potOf_25 : decode cX10_potOf 25 = .ok (.lload_n 3, 1) := by decide +kernel
theorem dX10_potOf_26 : decode cX10_potOf 26 = .ok (.aload_n 0, 1) := by decide +kernel
theorem dX10_potOf_27 : decode cX10_potOf 27 = .ok (.iload_n 2, 1) := by decide +kernel
theorem dX10_potOf_28 : decode cX10_potOf 28 = .ok (.invokevirtual 259, 3) := by decide +kernel
theorem dX10_potOf_31 : decode cX10_potOf 31 = .ok (.i2l, 1) := by decide +kernel
theorem dX10_potOf_32 : decode cX10_potOf 32 = .ok (.lmul, 1) := by decide +kernel
theorem dX10_potOf_33 : decode cX10_potOf 33 = .ok (.aload_n 0, 1) := by decide +kernel
theorem dX10_potOf_34 : decode cX10_potOf 34 = .ok (.aload_n 0, 1) := by decide +kernel
theorem dX10_potOf_35 : decode cX10_potOf 35 = .ok (.getfield 235, 3) := by decide +kernel
theorem dX10_potOf_38 : decode cX10_potOf 38 = .ok (.invokevirtual 259, 3) := by decide +kernel
theorem dX10_potOf_41 : decode cX10_potOf 41 = .ok (.i2l, 1) := by decide +kernel
theorem dX10_potOf_42 : decode cX10_potOf 42 = .ok (.ldiv, 1) := by decide +kernel
theorem dX10_potOf_43 : decode cX10_potOf 43 = .ok (.l2i, 1) := by decide +kernel
theorem dX10_potOf_44 : decode cX10_potOf 44 = .ok (.ireturn, 1) := by decide +kernel
theorem dX10_potOf_45 : decode cX10_potOf 45 = .ok (.aload_n 0, 1) := by decide +kernel
theorem dX10_potOf_46 : decode cX10_potOf 46 = .ok (.getfield 244, 3) := by decide +kernel
theorem dX10_potOf_49 : decode cX10_potOf 49 = .ok (.iconst 1, 1) := by decide +kernel
theorem dX10_potOf_50 : decode cX10_potOf 50 = .ok (.if_icmp .ne 21, 3) := by decide +kernel
theorem dX10_potOf_53 : decode cX10_potOf 53 = .ok (.lload_n 3, 1) := by decide +kernel
theorem dX10_potOf_54 : decode cX10_potOf 54 = .ok (.iload_n 2, 1) := by decide +kernel
theorem dX10_potOf_55 : decode cX10_potOf 55 = .ok (.invokestatic 262, 3) := by decide +kernel
theorem dX10_potOf_58 : decode cX10_potOf 58 = .ok (.i2l, 1) := by decide +kernel
theorem dX10_potOf_59 : decode cX10_potOf 59 = .ok (.lmul, 1) := by decide +kernel
theorem dX10_potOf_60 : decode cX10_potOf 60 = .ok (.aload_n 0, 1) := by decide +kernel
theorem dX10_potOf_61 : decode cX10_potOf 61 = .ok (.getfield 235, 3) := by decide +kernel
theorem dX10_potOf_64 : decode cX10_potOf 64 = .ok (.invokestatic 262, 3) := by decide +kernel
theorem dX10_potOf_67 : decode cX10_potOf 67 = .ok (.i2l, 1) := by decide +kernel
theorem dX10_potOf_68 : decode cX10_potOf 68 = .ok (.ldiv, 1) := by decide +kernel
theorem dX10_potOf_69 : decode cX10_potOf 69 = .ok (.l2i, 1) := by decide +kernel
theorem dX10_potOf_70 : decode cX10_potOf 70 = .ok (.ireturn, 1) := by decide +kernel
theorem dX10_potOf_71 : decode cX10_potOf 71 = .ok (.iconst 0, 1) := by decide +kernel
theorem dX10_potOf_72 : decode cX10_potOf 72 = .ok (.istore 5, 2) := by decide +kernel
theorem dX10_potOf_74 : decode cX10_potOf 74 = .ok (.iconst 0, 1) := by decide +kernel
theorem dX10_potOf_75 : decode cX10_potOf 75 = .ok (.istore 6, 2) := by decide +kernel
theorem dX10_potOf_77 : decode cX10_potOf 77 = .ok (.iload 6, 2) := by decide +kernel
theorem dX10_potOf_79 : decode cX10_potOf 79 = .ok (.aload_n 0, 1) := by decide +kernel
theorem dX10_potOf_80 : decode cX10_potOf 80 = .ok (.getfield 217, 3) := by decide +kernel
theorem dX10_potOf_83 : decode cX10_potOf 83 = .ok (.if_icmp .ge 28, 3) := by decide +kernel
theorem dX10_potOf_86 : decode cX10_potOf 86 = .ok (.iload 5, 2) := by decide +kernel
theorem dX10_potOf_88 : decode cX10_potOf 88 = .ok (.aload_n 0, 1) := by decide +kernel
theorem dX10_potOf_89 : decode cX10_potOf 89 = .ok (.iload 6, 2) := by decide +kernel
theorem dX10_potOf_91 : decode cX10_potOf 91 = .ok (.invokevirtual 253, 3) := by decide +kernel
theorem dX10_potOf_94 : decode cX10_potOf 94 = .ok (.ifCond .eq 7, 3) := by decide +kernel
theorem dX10_potOf_97 : decode cX10_potOf 97 = .ok (.iconst 1, 1) := by decide +kernel
theorem dX10_potOf_98 : decode cX10_potOf 98 = .ok (.goto 4, 3) := by decide +kernel
theorem dX10_potOf_101 : decode cX10_potOf 101 = .ok (.iconst 0, 1) := by decide +kernel
theorem dX10_potOf_102 : decode cX10_potOf 102 = .ok (.iadd, 1) := by decide +kernel
theorem dX10_potOf_103 : decode cX10_potOf 103 = .ok (.istore 5, 2) := by decide +kernel
theorem dX10_potOf_105 : decode cX10_potOf 105 = .ok (.iinc 6 1, 3) := by decide +kernel
theorem dX10_potOf_108 : decode cX10_potOf 108 = .ok (.goto (-31), 3) := by decide +kernel
theorem dX10_potOf_111 : decode cX10_potOf 111 = .ok (.lload_n 3, 1) := by decide +kernel
theorem dX10_potOf_112 : decode cX10_potOf 112 = .ok (.iload 5, 2) := by decide +kernel
theorem dX10_potOf_114 : decode cX10_potOf 114 = .ok (.i2l, 1) := by decide +kernel
theorem dX10_potOf_115 : decode cX10_potOf 115 = .ok (.ldiv, 1) := by decide +kernel
theorem dX10_potOf_116 : decode cX10_potOf 116 = .ok (.l2i, 1) := by decide +kernel
theorem dX10_potOf_117 : decode cX10_potOf 117 = .ok (.ireturn, 1) := by decide +kernel
theorem zm_X10_potOf : ZMv "ClassOfManyModel" yX10_potOf cX10_potOf 7 (some .int) 1 := ⟨kw_7_201, kw_7_200, kp_104, kw_1_10, by decide +kernel, by decide⟩
def zf_X10_potOf_j102 (R77 : Int32 → Int32 → Option (Int32)) (v33 : Int32) (v34 : Int32) (v37 : Int32) : Option (Int32) :=
  (R77 (v33 + v37) (v34 + (1 : Int32)))
def zf_X10_potOf_L77 (M : ZMem) (n : Nat) (K111 : Int32 → Option (Int32)) : Nat → Int32 → Int32 → Option (Int32)
  | 0, _, _ => none
  | n77 + 1, v33, v34 =>
  (if (M 77 20) ≤ v34 then (K111 v33) else zb1 (zf_X10_countedIn n v34 M) (fun v36 => (if v36 = 0 then (zf_X10_potOf_j102 (fun x0 x1 => zf_X10_potOf_L77 M n K111 n77 x0 x1) v33 v34 (0 : Int32)) else (zf_X10_potOf_j102 (fun x0 x1 => zf_X10_potOf_L77 M n K111 n77 x0 x1) v33 v34 (1 : Int32)))))
def zf_X10_potOf (n : Nat) (a1 : Int32) (M : ZMem) : Option (Int32) :=
  zb1 (zf_X10_countedIn n a1 M) (fun v31 => (if v31 = 0 then some (0 : Int32) else zb1 (zf_X10_net n M) (fun v32 => (if (M 77 25) = 0 then zb1 (zf_X10_claims n v31 M) (fun v43 => zb1 (zf_X10_claims n (M 77 22) M) (fun v44 => zldiv ((v32.toInt64) * (v43.toInt64)) (v44.toInt64) (fun w45 => some (w45.toInt32)))) else (if (M 77 25) = (1 : Int32) then zb1 (zf_X10_bits n v31) (fun v40 => zb1 (zf_X10_bits n (M 77 22)) (fun v41 => zldiv ((v32.toInt64) * (v40.toInt64)) (v41.toInt64) (fun w42 => some (w42.toInt32)))) else (zf_X10_potOf_L77 M n (fun v38 => zldiv (v32.toInt64) (v38.toInt64) (fun w39 => some (w39.toInt32))) n (0 : Int32) (0 : Int32)))))))
set_option maxHeartbeats 4000000 in
set_option maxRecDepth 100000 in
theorem zc_X10_potOf {l : Launch} {D : va_G} {ad : Nat → Nat} {cA : Nat → ClassId} {n : Nat} {a1 : Int32} {M : ZMem} {r : Int32} (hf : zf_X10_potOf n a1 M = some r) : ZCt l D ad cA yX10_potOf cX10_potOf 7 (some .int) 5 [.ref (ad 77), .int a1] M (some (.int r)) M := by
  refine zct (by decide +kernel) (Nat.le_of_ble_eq_true rfl) (lv := [(0, .ref (ad 77)), (1, .int a1)]) rfl (fun E hl hD had hcA hN hC hR => ?_)
  subst hl; subst hD; subst had; subst hcA
  unfold zf_X10_potOf at hf
  refine zw_aload_n hC dX10_potOf_0 rfl 0 rfl ?_
  refine zw_iload_n hC dX10_potOf_1 rfl 1 rfl ?_
  obtain ⟨v31, hc31, hf⟩ := zb1_some hf
  refine zw_cV hC [.int a1] [] (st1 := [.int v31]) zm_X10_countedIn (zc_X10_countedIn hc31) zk_77 rfl kw_7_202 dX10_potOf_2 rfl (by decide) (Nat.le_of_ble_eq_true rfl) rfl rfl ?_
  refine zw_istore_n hC (lv' := [(2, .int v31), (0, .ref (zad E 77)), (1, .int a1)]) dX10_potOf_5 rfl hN (by decide) rfl ?_
  refine zw_iload_n hC dX10_potOf_6 rfl 0 rfl ?_
  refine zw_if_ne hC 12 hf dX10_potOf_7 (by decide) (fun hf => ?_) (fun hf => ?_)
  · refine zw_aload_n hC dX10_potOf_12 rfl 1 rfl ?_
    obtain ⟨v32, hc32, hf⟩ := zb1_some hf
    refine zw_cV hC [] [] (st1 := [.int v32]) zm_X10_net (zc_X10_net hc32) zk_77 rfl kw_7_194 dX10_potOf_13 rfl (by decide) (Nat.le_of_ble_eq_true rfl) rfl rfl ?_
    refine zw_i2l hC dX10_potOf_16 ?_
    refine zw_lstore_n hC (lv' := [(3, .long (v32.toInt64)), (2, .int v31), (0, .ref (zad E 77)), (1, .int a1)]) dX10_potOf_17 rfl hN (by decide) rfl ?_
    refine zw_aload_n hC dX10_potOf_18 rfl 2 rfl ?_
    refine zw_geti hC zF_Model_nowRule zk_77 dX10_potOf_19 kw_6_11 ?_
    refine zw_if_ne hC 45 hf dX10_potOf_22 (by decide) (fun hf => ?_) (fun hf => ?_)
    · refine zw_aload_n hC dX10_potOf_45 rfl 2 rfl ?_
      refine zw_geti hC zF_Model_nowRule zk_77 dX10_potOf_46 kw_6_11 ?_
      refine zw_iconst hC (v := (1 : Int32)) dX10_potOf_49 (by decide) ?_
      refine zw_icmp_ne hC 71 hf dX10_potOf_50 (by decide) (fun hf => ?_) (fun hf => ?_)
      · refine zw_iconst hC (v := (0 : Int32)) dX10_potOf_71 (by decide) ?_
        refine zw_istore hC (lv' := [(5, .int (0 : Int32)), (3, .long (v32.toInt64)), (2, .int v31), (0, .ref (zad E 77)), (1, .int a1)]) dX10_potOf_72 hN (by decide) rfl ?_
        refine zw_iconst hC (v := (0 : Int32)) dX10_potOf_74 (by decide) ?_
        refine zw_istore hC (lv' := [(6, .int (0 : Int32)), (5, .int (0 : Int32)), (3, .long (v32.toInt64)), (2, .int v31), (0, .ref (zad E 77)), (1, .int a1)]) dX10_potOf_75 hN (by decide) rfl ?_
        have hL77 : ∀ (K111 : Int32 → Option (Int32)), (∀ (v35 : Int32), K111 v35 = some r → ZW E 111 [(3, .long (v32.toInt64)), (5, .int v35)] [] M) → ∀ (n77 : Nat), ∀ (v33 : Int32), ∀ (v34 : Int32), zf_X10_potOf_L77 M n K111 n77 v33 v34 = some r → ZW E 77 [(0, .ref (zad E 77)), (3, .long (v32.toInt64)), (5, .int v33), (6, .int v34)] [] M := by
          intro K111 hK111
          intro n77
          induction n77 with
          | zero => intro v33 v34 hf; rw [zf_X10_potOf_L77] at hf; cases hf
          | succ n77 ih77 =>
            intro v33 v34 hf
            rw [zf_X10_potOf_L77] at hf
            refine zw_iload hC dX10_potOf_77 3 rfl ?_
            refine zw_aload_n hC dX10_potOf_79 rfl 0 rfl ?_
            refine zw_geti hC zF_Model_parts zk_77 dX10_potOf_80 kw_6_6 ?_
            refine zw_icmp_ge hC 111 hf dX10_potOf_83 (by decide) (fun hf => ?_) (fun hf => ?_)
            · exact zw_sub [1, 2] rfl (hK111 v33 hf)
            · refine zw_iload hC dX10_potOf_86 2 rfl ?_
              refine zw_aload_n hC dX10_potOf_88 rfl 0 rfl ?_
              refine zw_iload hC dX10_potOf_89 3 rfl ?_
              obtain ⟨v36, hc36, hf⟩ := zb1_some hf
              refine zw_cV hC [.int v34] [.int v33] (st1 := [.int v36, .int v33]) zm_X10_countedIn (zc_X10_countedIn hc36) zk_77 rfl kw_7_202 dX10_potOf_91 rfl (by decide) (Nat.le_of_ble_eq_true rfl) rfl rfl ?_
              have hj102 : ∀ (v37 : Int32), zf_X10_potOf_j102 (fun x0 x1 => zf_X10_potOf_L77 M n K111 n77 x0 x1) v33 v34 v37 = some r → ZW E 102 [(0, .ref (zad E 77)), (3, .long (v32.toInt64)), (6, .int v34)] [.int v37, .int v33] M := by
                intro v37 hf
                unfold zf_X10_potOf_j102 at hf
                refine zw_iadd hC dX10_potOf_102 ?_
                refine zw_istore hC (lv' := [(5, .int (v33 + v37)), (0, .ref (zad E 77)), (3, .long (v32.toInt64)), (6, .int v34)]) dX10_potOf_103 hN (by decide) rfl ?_
                refine zw_iinc hC (v := (1 : Int32)) (lv' := [(6, .int (v34 + (1 : Int32))), (5, .int (v33 + v37)), (0, .ref (zad E 77)), (3, .long (v32.toInt64))]) dX10_potOf_105 3 rfl (by decide) hN (by decide) rfl ?_
                refine zw_goto hC 77 dX10_potOf_108 (by decide) ?_
                exact zw_sub [2, 3, 1, 0] rfl (ih77 (v33 + v37) (v34 + (1 : Int32)) hf)
              refine zw_if_eq hC 101 hf dX10_potOf_94 (by decide) (fun hf => ?_) (fun hf => ?_)
              · refine zw_iconst hC (v := (0 : Int32)) dX10_potOf_101 (by decide) ?_
                exact zw_sub [0, 1, 3] rfl (hj102 (0 : Int32) hf)
              · refine zw_iconst hC (v := (1 : Int32)) dX10_potOf_97 (by decide) ?_
                refine zw_goto hC 102 dX10_potOf_98 (by decide) ?_
                exact zw_sub [0, 1, 3] rfl (hj102 (1 : Int32) hf)
        refine zw_sub [4, 2, 1, 0] rfl (hL77 _ ?_ n (0 : Int32) (0 : Int32) hf)
        · intro v38 hf
          refine zw_lload_n hC dX10_potOf_111 rfl 0 rfl ?_
          refine zw_iload hC dX10_potOf_112 1 rfl ?_
          refine zw_i2l hC dX10_potOf_114 ?_
          refine zw_ldiv hC hf dX10_potOf_115 (fun w39 hf => ?_)
          refine zw_l2i hC dX10_potOf_116 ?_
          have h1 := Option.some.inj hf
          subst h1
          exact zw_iret hC hR dX10_potOf_117
      · refine zw_lload_n hC dX10_potOf_53 rfl 0 rfl ?_
        refine zw_iload_n hC dX10_potOf_54 rfl 1 rfl ?_
        obtain ⟨v40, hc40, hf⟩ := zb1_some hf
        refine zw_cS hC [.int v31] [.long (v32.toInt64)] (st1 := [.int v40, .long (v32.toInt64)]) zm_X10_bits (zc_X10_bits hc40) kw_7_21 dX10_potOf_55 rfl (by decide) (Nat.le_of_ble_eq_true rfl) rfl rfl ?_
        refine zw_i2l hC dX10_potOf_58 ?_
        refine zw_lmul hC dX10_potOf_59 ?_
        refine zw_aload_n hC dX10_potOf_60 rfl 2 rfl ?_
        refine zw_geti hC zF_Model_nowCounted zk_77 dX10_potOf_61 kw_6_8 ?_
        obtain ⟨v41, hc41, hf⟩ := zb1_some hf
        refine zw_cS hC [.int (M 77 22)] [.long ((v32.toInt64) * (v40.toInt64))] (st1 := [.int v41, .long ((v32.toInt64) * (v40.toInt64))]) zm_X10_bits (zc_X10_bits hc41) kw_7_21 dX10_potOf_64 rfl (by decide) (Nat.le_of_ble_eq_true rfl) rfl rfl ?_
        refine zw_i2l hC dX10_potOf_67 ?_
        refine zw_ldiv hC hf dX10_potOf_68 (fun w42 hf => ?_)
        refine zw_l2i hC dX10_potOf_69 ?_
        have h1 := Option.some.inj hf
        subst h1
        exact zw_iret hC hR dX10_potOf_70
    · refine zw_lload_n hC dX10_potOf_25 rfl 0 rfl ?_
      refine zw_aload_n hC dX10_potOf_26 rfl 2 rfl ?_
      refine zw_iload_n hC dX10_potOf_27 rfl 1 rfl ?_
      obtain ⟨v43, hc43, hf⟩ := zb1_some hf
      refine zw_cV hC [.int v31] [.long (v32.toInt64)] (st1 := [.int v43, .long (v32.toInt64)]) zm_X10_claims (zc_X10_claims hc43) zk_77 rfl kw_7_48 dX10_potOf_28 rfl (by decide) (Nat.le_of_ble_eq_true rfl) rfl rfl ?_
      refine zw_i2l hC dX10_potOf_31 ?_
      refine zw_lmul hC dX10_potOf_32 ?_
      refine zw_aload_n hC dX10_potOf_33 rfl 2 rfl ?_
      refine zw_aload_n hC dX10_potOf_34 rfl 2 rfl ?_
      refine zw_geti hC zF_Model_nowCounted zk_77 dX10_potOf_35 kw_6_8 ?_
      obtain ⟨v44, hc44, hf⟩ := zb1_some hf
      refine zw_cV hC [.int (M 77 22)] [.long ((v32.toInt64) * (v43.toInt64))] (st1 := [.int v44, .long ((v32.toInt64) * (v43.toInt64))]) zm_X10_claims (zc_X10_claims hc44) zk_77 rfl kw_7_48 dX10_potOf_38 rfl (by decide) (Nat.le_of_ble_eq_true rfl) rfl rfl ?_
      refine zw_i2l hC dX10_potOf_41 ?_
      refine zw_ldiv hC hf dX10_potOf_42 (fun w45 hf => ?_)
      refine zw_l2i hC dX10_potOf_43 ?_
      have h1 := Option.some.inj hf
      subst h1
      exact zw_iret hC hR dX10_potOf_44
  · refine zw_iconst hC (v := (0 : Int32)) dX10_potOf_10 (by decide) ?_
    have h1 := Option.some.inj hf
    subst h1
    exact zw_iret hC hR dX10_potOf_11
/-! ClassOfManyModel.sent(IJI)I -/
theorem dX10_sent_0 : decode cX10_sent 0 = .ok (.lload_n 2, 1) := by decide +kernel
theorem dX10_sent_1 : decode cX10_sent 1 = .ok (.iload_n 1, 1) := by decide +kernel
theorem dX10_sent_2 : decode cX10_sent 2 = .ok (.i2l, 1) := by decide +kernel
theorem dX10_sent_3 : decode cX10_sent 3 = .ok (.lmul, 1) := by decide +kernel
theorem dX10_sent_4 : decode cX10_sent 4 = .ok (.iload 4, 2) := by decide +kernel
theorem dX10_sent_6 : decode cX10_sent 6 = .ok (.i2l, 1) := by decide +kernel
theorem dX10_sent_7 : decode cX10_sent 7 = .ok (.ldiv, 1) := by decide +kernel
theorem dX10_sent_8 : decode cX10_sent 8 = .ok (.lstore 5, 2) := by decide +kernel
theorem dX10_sent_10 : decode cX10_sent 10 = .ok (.lload 5, 2) := by decide +kernel
theorem dX10_sent_12 : decode cX10_sent 12 = .ok (.iload_n 1, 1) := by decide +kernel
theorem dX10_sent_13 : decode cX10_sent 13 = .ok (.i2l, 1) := by decide +kernel
theorem dX10_sent_14 : decode cX10_sent 14 = .ok (.lcmp, 1) := by decide +kernel
theorem dX10_sent_15 : decode cX10_sent 15 = .ok (.ifCond .le 8, 3) := by decide +kernel
theorem dX10_sent_18 : decode cX10_sent 18 = .ok (.iload_n 1, 1) := by decide +kernel
theorem dX10_sent_19 : decode cX10_sent 19 = .ok (.i2l, 1) := by decide +kernel
theorem dX10_sent_20 : decode cX10_sent 20 = .ok (.goto 5, 3) := by decide +kernel
theorem dX10_sent_23 : decode cX10_sent 23 = .ok (.lload 5, 2) := by decide +kernel
theorem dX10_sent_25 : decode cX10_sent 25 = .ok (.lstore 5, 2) := by decide +kernel
theorem dX10_sent_27 : decode cX10_sent 27 = .ok (.lload 5, 2) := by decide +kernel
theorem dX10_sent_29 : decode cX10_sent 29 = .ok (.aload_n 0, 1) := by decide +kernel
theorem dX10_sent_30 : decode cX10_sent 30 = .ok (.getfield 7, 3) := by decide +kernel
theorem dX10_sent_33 : decode cX10_sent 33 = .ok (.iconst 4, 1) := by decide +kernel
theorem dX10_sent_34 : decode cX10_sent 34 = .ok (.iaload, 1) := by decide +kernel
theorem dX10_sent_35 : decode cX10_sent 35 = .ok (.i2l, 1) := by decide +kernel
theorem dX10_sent_36 : decode cX10_sent 36 = .ok (.lcmp, 1) := by decide +kernel
theorem dX10_sent_37 : decode cX10_sent 37 = .ok (.ifCond .ge 7, 3) := by decide +kernel
theorem dX10_sent_40 : decode cX10_sent 40 = .ok (.iconst 0, 1) := by decide +kernel
theorem dX10_sent_41 : decode cX10_sent 41 = .ok (.goto 6, 3) := by decide +kernel
theorem dX10_sent_44 : decode cX10_sent 44 = .ok (.lload 5, 2) := by decide +kernel
theorem dX10_sent_46 : decode cX10_sent 46 = .ok (.l2i, 1) := by decide +kernel
theorem dX10_sent_47 : decode cX10_sent 47 = .ok (.ireturn, 1) := by decide +kernel
theorem zm_X10_sent : ZMv "ClassOfManyModel" yX10_sent cX10_sent 7 (some .int) 3 := ⟨kw_7_213, kw_7_212, kp_107, kw_1_10, by decide +kernel, by decide⟩
def zf_X10_sent_j47 (v26 : Int32) : Option (Int32) :=
  some v26
def zf_X10_sent_j25 (M : ZMem) (w24 : Int64) : Option (Int32) :=
  zrd M 78 73 (4 : Int32) (fun v25 => (if 0 ≤ (lg_cmp w24 (v25.toInt64)) then (zf_X10_sent_j47 (w24.toInt32)) else (zf_X10_sent_j47 (0 : Int32))))
def zf_X10_sent (a1 : Int32) (w902 : Int64) (a4 : Int32) (M : ZMem) : Option (Int32) :=
  zldiv (w902 * (a1.toInt64)) (a4.toInt64) (fun w23 => (if (lg_cmp w23 (a1.toInt64)) ≤ 0 then (zf_X10_sent_j25 M w23) else (zf_X10_sent_j25 M (a1.toInt64))))
set_option maxHeartbeats 4000000 in
set_option maxRecDepth 100000 in
theorem zc_X10_sent {l : Launch} {D : va_G} {ad : Nat → Nat} {cA : Nat → ClassId} {a1 : Int32} {w902 : Int64} {a4 : Int32} {M : ZMem} {r : Int32} (hf : zf_X10_sent a1 w902 a4 M = some r) : ZCt l D ad cA yX10_sent cX10_sent 7 (some .int) 1 [.ref (ad 77), .int a1, .long w902, .int a4] M (some (.int r)) M := by
  refine zct (by decide +kernel) (Nat.le_of_ble_eq_true rfl) (lv := [(0, .ref (ad 77)), (1, .int a1), (2, .long w902), (4, .int a4)]) rfl (fun E hl hD had hcA hN hC hR => ?_)
  subst hl; subst hD; subst had; subst hcA
  unfold zf_X10_sent at hf
  refine zw_lload_n hC dX10_sent_0 rfl 2 rfl ?_
  refine zw_iload_n hC dX10_sent_1 rfl 1 rfl ?_
  refine zw_i2l hC dX10_sent_2 ?_
  refine zw_lmul hC dX10_sent_3 ?_
  refine zw_iload hC dX10_sent_4 3 rfl ?_
  refine zw_i2l hC dX10_sent_6 ?_
  refine zw_ldiv hC hf dX10_sent_7 (fun w23 hf => ?_)
  refine zw_lstore hC (lv' := [(5, .long w23), (0, .ref (zad E 77)), (1, .int a1), (2, .long w902), (4, .int a4)]) dX10_sent_8 hN (by decide) rfl ?_
  refine zw_lload hC dX10_sent_10 0 rfl ?_
  refine zw_iload_n hC dX10_sent_12 rfl 2 rfl ?_
  refine zw_i2l hC dX10_sent_13 ?_
  refine zw_lcmp hC dX10_sent_14 ?_
  have hj25 : ∀ (w24 : Int64), zf_X10_sent_j25 M w24 = some r → ZW E 25 [(0, .ref (zad E 77))] [.long w24] M := by
    intro w24 hf
    unfold zf_X10_sent_j25 at hf
    refine zw_lstore hC (lv' := [(5, .long w24), (0, .ref (zad E 77))]) dX10_sent_25 hN (by decide) rfl ?_
    refine zw_lload hC dX10_sent_27 0 rfl ?_
    refine zw_aload_n hC dX10_sent_29 rfl 1 rfl ?_
    refine zw_getr (k' := 78) hC zF_Model_now zk_77 rfl dX10_sent_30 kw_5_227 ?_
    refine zw_iconst hC (v := (4 : Int32)) dX10_sent_33 (by decide) ?_
    refine zw_iald hC hf zk_78 dX10_sent_34 (fun v25 hf => ?_)
    refine zw_i2l hC dX10_sent_35 ?_
    refine zw_lcmp hC dX10_sent_36 ?_
    have hj47 : ∀ (v26 : Int32), zf_X10_sent_j47 v26 = some r → ZW E 47 [] [.int v26] M := by
      intro v26 hf
      unfold zf_X10_sent_j47 at hf
      have h1 := Option.some.inj hf
      subst h1
      exact zw_iret hC hR dX10_sent_47
    refine zw_if_ge hC 44 hf dX10_sent_37 (by decide) (fun hf => ?_) (fun hf => ?_)
    · refine zw_lload hC dX10_sent_44 0 rfl ?_
      refine zw_l2i hC dX10_sent_46 ?_
      exact zw_sub [] rfl (hj47 (w24.toInt32) hf)
    · refine zw_iconst hC (v := (0 : Int32)) dX10_sent_40 (by decide) ?_
      refine zw_goto hC 47 dX10_sent_41 (by decide) ?_
      exact zw_sub [] rfl (hj47 (0 : Int32) hf)
  refine zw_if_le hC 23 hf dX10_sent_15 (by decide) (fun hf => ?_) (fun hf => ?_)
  · refine zw_lload hC dX10_sent_23 0 rfl ?_
    exact zw_sub [1] rfl (hj25 w23 hf)
  · refine zw_iload_n hC dX10_sent_18 rfl 2 rfl ?_
    refine zw_i2l hC dX10_sent_19 ?_
    refine zw_goto hC 25 dX10_sent_20 (by decide) ?_
    exact zw_sub [1] rfl (hj25 (a1.toInt64) hf)
/-! ClassOfManyModel.lackedByAll()I -/
theorem dX10_lackedByAll_0 : decode cX10_lackedByAll 0 = .ok (.iconst 0, 1) := by decide +kernel
theorem dX10_lackedByAll_1 : decode cX10_lackedByAll 1 = .ok (.istore_n 1, 1) := by decide +kernel
theorem dX10_lackedByAll_2 : decode cX10_lackedByAll 2 = .ok (.iconst 0, 1) := by decide +kernel
theorem dX10_lackedByAll_3 : decode cX10_lackedByAll 3 = .ok (.istore_n 2, 1) := by decide +kernel
theorem dX10_lackedByAll_4 : decode cX10_lackedByAll 4 = .ok (.iload_n 2, 1) := by decide +kernel
theorem dX10_lackedByAll_5 : decode cX10_lackedByAll 5 = .ok (.aload_n 0, 1) := by decide +kernel
theorem dX10_lackedByAll_6 : decode cX10_lackedByAll 6 = .ok (.getfield 7, 3) := by decide +kernel
theorem dX10_lackedByAll_9 : decode cX10_lackedByAll 9 = .ok (.iconst 0, 1) := by decide +kernel
theorem dX10_lackedByAll_10 : decode cX10_lackedByAll 10 = .ok (.iaload, 1) := by decide +kernel
theorem dX10_lackedByAll_11 : decode cX10_lackedByAll 11 = .ok (.if_icmp .ge 50, 3) := by decide +kernel
theorem dX10_lackedByAll_14 : decode cX10_lackedByAll 14 = .ok (.iload_n 1, 1) := by decide +kernel
theorem dX10_lackedByAll_15 : decode cX10_lackedByAll 15 = .ok (.aload_n 0, 1) := by decide +kernel
theorem dX10_lackedByAll_16 : decode cX10_lackedByAll 16 = .ok (.getfield 235, 3) := by decide +kernel
theorem dX10_lackedByAll_19 : decode cX10_lackedByAll 19 = .ok (.iload_n 2, 1) := by decide +kernel
theorem dX10_lackedByAll_20 : decode cX10_lackedByAll 20 = .ok (.invokestatic 118, 3) := by decide +kernel
theorem dX10_lackedByAll_23 : decode cX10_lackedByAll 23 = .ok (.ifCond .eq 29, 3) := by decide +kernel
theorem dX10_lackedByAll_26 : decode cX10_lackedByAll 26 = .ok (.aload_n 0, 1) := by decide +kernel
theorem dX10_lackedByAll_27 : decode cX10_lackedByAll 27 = .ok (.getfield 238, 3) := by decide +kernel
theorem dX10_lackedByAll_30 : decode cX10_lackedByAll 30 = .ok (.iload_n 2, 1) := by decide +kernel
theorem dX10_lackedByAll_31 : decode cX10_lackedByAll 31 = .ok (.invokestatic 118, 3) := by decide +kernel
theorem dX10_lackedByAll_34 : decode cX10_lackedByAll 34 = .ok (.ifCond .ne 18, 3) := by decide +kernel
theorem dX10_lackedByAll_37 : decode cX10_lackedByAll 37 = .ok (.aload_n 0, 1) := by decide +kernel
theorem dX10_lackedByAll_38 : decode cX10_lackedByAll 38 = .ok (.iload_n 2, 1) := by decide +kernel
theorem dX10_lackedByAll_39 : decode cX10_lackedByAll 39 = .ok (.invokevirtual 211, 3) := by decide +kernel
theorem dX10_lackedByAll_42 : decode cX10_lackedByAll 42 = .ok (.aload_n 0, 1) := by decide +kernel
theorem dX10_lackedByAll_43 : decode cX10_lackedByAll 43 = .ok (.getfield 34, 3) := by decide +kernel
theorem dX10_lackedByAll_46 : decode cX10_lackedByAll 46 = .ok (.iload_n 2, 1) := by decide +kernel
theorem dX10_lackedByAll_47 : decode cX10_lackedByAll 47 = .ok (.iaload, 1) := by decide +kernel
theorem dX10_lackedByAll_48 : decode cX10_lackedByAll 48 = .ok (.isub, 1) := by decide +kernel
theorem dX10_lackedByAll_49 : decode cX10_lackedByAll 49 = .ok (.goto 4, 3) := by decide +kernel
theorem dX10_lackedByAll_52 : decode cX10_lackedByAll 52 = .ok (.iconst 0, 1) := by decide +kernel
theorem dX10_lackedByAll_53 : decode cX10_lackedByAll 53 = .ok (.iadd, 1) := by decide +kernel
theorem dX10_lackedByAll_54 : decode cX10_lackedByAll 54 = .ok (.istore_n 1, 1) := by decide +kernel
theorem dX10_lackedByAll_55 : decode cX10_lackedByAll 55 = .ok (.iinc 2 1, 3) := by decide +kernel
theorem dX10_lackedByAll_58 : decode cX10_lackedByAll 58 = .ok (.goto (-54), 3) := by decide +kernel
theorem dX10_lackedByAll_61 : decode cX10_lackedByAll 61 = .ok (.iload_n 1, 1) := by decide +kernel
theorem dX10_lackedByAll_62 : decode cX10_lackedByAll 62 = .ok (.ireturn, 1) := by decide +kernel
theorem zm_X10_lackedByAll : ZMv "ClassOfManyModel" yX10_lackedByAll cX10_lackedByAll 3 (some .int) 0 := ⟨kw_7_209, kw_7_208, kp_106, kw_1_10, by decide +kernel, by decide⟩
def zf_X10_lackedByAll_j53 (R4 : Int32 → Int32 → Option (Int32)) (v26 : Int32) (v27 : Int32) (v31 : Int32) : Option (Int32) :=
  (R4 (v26 + v31) (v27 + (1 : Int32)))
def zf_X10_lackedByAll_j52 (R4 : Int32 → Int32 → Option (Int32)) (v26 : Int32) (v27 : Int32) : Option (Int32) :=
  (zf_X10_lackedByAll_j53 R4 v26 v27 (0 : Int32))
def zf_X10_lackedByAll_L4 (M : ZMem) (K61 : Int32 → Option (Int32)) : Nat → Int32 → Int32 → Option (Int32)
  | 0, _, _ => none
  | n4 + 1, v26, v27 =>
  zrd M 78 73 (0 : Int32) (fun v29 => (if v29 ≤ v27 then (K61 v26) else zb1 (zf_X10_has (M 77 22) v27) (fun v30 => (if v30 = 0 then (zf_X10_lackedByAll_j52 (fun x0 x1 => zf_X10_lackedByAll_L4 M K61 n4 x0 x1) v26 v27) else zb1 (zf_X10_has (M 77 23) v27) (fun v32 => (if v32 = 0 then zb1 (zf_X10_claim v27 M) (fun v33 => zrd M 86 10 v27 (fun v34 => (zf_X10_lackedByAll_j53 (fun x0 x1 => zf_X10_lackedByAll_L4 M K61 n4 x0 x1) v26 v27 (v33 - v34)))) else (zf_X10_lackedByAll_j52 (fun x0 x1 => zf_X10_lackedByAll_L4 M K61 n4 x0 x1) v26 v27)))))))
def zf_X10_lackedByAll (n : Nat) (M : ZMem) : Option (Int32) :=
  (zf_X10_lackedByAll_L4 M (fun v35 => some v35) n (0 : Int32) (0 : Int32))
set_option maxHeartbeats 4000000 in
set_option maxRecDepth 100000 in
theorem zc_X10_lackedByAll {l : Launch} {D : va_G} {ad : Nat → Nat} {cA : Nat → ClassId} {n : Nat} {M : ZMem} {r : Int32} (hf : zf_X10_lackedByAll n M = some r) : ZCt l D ad cA yX10_lackedByAll cX10_lackedByAll 3 (some .int) 3 [.ref (ad 77)] M (some (.int r)) M := by
  refine zct (by decide +kernel) (Nat.le_of_ble_eq_true rfl) (lv := [(0, .ref (ad 77))]) rfl (fun E hl hD had hcA hN hC hR => ?_)
  subst hl; subst hD; subst had; subst hcA
  unfold zf_X10_lackedByAll at hf
  refine zw_iconst hC (v := (0 : Int32)) dX10_lackedByAll_0 (by decide) ?_
  refine zw_istore_n hC (lv' := [(1, .int (0 : Int32)), (0, .ref (zad E 77))]) dX10_lackedByAll_1 rfl hN (by decide) rfl ?_
  refine zw_iconst hC (v := (0 : Int32)) dX10_lackedByAll_2 (by decide) ?_
  refine zw_istore_n hC (lv' := [(2, .int (0 : Int32)), (1, .int (0 : Int32)), (0, .ref (zad E 77))]) dX10_lackedByAll_3 rfl hN (by decide) rfl ?_
  have hL4 : ∀ (K61 : Int32 → Option (Int32)), (∀ (v28 : Int32), K61 v28 = some r → ZW E 61 [(1, .int v28)] [] M) → ∀ (n4 : Nat), ∀ (v26 : Int32), ∀ (v27 : Int32), zf_X10_lackedByAll_L4 M K61 n4 v26 v27 = some r → ZW E 4 [(0, .ref (zad E 77)), (1, .int v26), (2, .int v27)] [] M := by
    intro K61 hK61
    intro n4
    induction n4 with
    | zero => intro v26 v27 hf; rw [zf_X10_lackedByAll_L4] at hf; cases hf
    | succ n4 ih4 =>
      intro v26 v27 hf
      rw [zf_X10_lackedByAll_L4] at hf
      refine zw_iload_n hC dX10_lackedByAll_4 rfl 2 rfl ?_
      refine zw_aload_n hC dX10_lackedByAll_5 rfl 0 rfl ?_
      refine zw_getr (k' := 78) hC zF_Model_now zk_77 rfl dX10_lackedByAll_6 kw_5_227 ?_
      refine zw_iconst hC (v := (0 : Int32)) dX10_lackedByAll_9 (by decide) ?_
      refine zw_iald hC hf zk_78 dX10_lackedByAll_10 (fun v29 hf => ?_)
      refine zw_icmp_ge hC 61 hf dX10_lackedByAll_11 (by decide) (fun hf => ?_) (fun hf => ?_)
      · exact zw_sub [1] rfl (hK61 v26 hf)
      · refine zw_iload_n hC dX10_lackedByAll_14 rfl 1 rfl ?_
        refine zw_aload_n hC dX10_lackedByAll_15 rfl 0 rfl ?_
        refine zw_geti hC zF_Model_nowCounted zk_77 dX10_lackedByAll_16 kw_6_8 ?_
        refine zw_iload_n hC dX10_lackedByAll_19 rfl 2 rfl ?_
        obtain ⟨v30, hc30, hf⟩ := zb1_some hf
        refine zw_cS hC [.int (M 77 22), .int v27] [.int v26] (st1 := [.int v30, .int v26]) zm_X10_has (zc_X10_has hc30) kw_6_150 dX10_lackedByAll_20 rfl (by decide) (Nat.le_of_ble_eq_true rfl) rfl rfl ?_
        have hj53 : ∀ (v31 : Int32), zf_X10_lackedByAll_j53 (fun x0 x1 => zf_X10_lackedByAll_L4 M K61 n4 x0 x1) v26 v27 v31 = some r → ZW E 53 [(0, .ref (zad E 77)), (2, .int v27)] [.int v31, .int v26] M := by
          intro v31 hf
          unfold zf_X10_lackedByAll_j53 at hf
          refine zw_iadd hC dX10_lackedByAll_53 ?_
          refine zw_istore_n hC (lv' := [(1, .int (v26 + v31)), (0, .ref (zad E 77)), (2, .int v27)]) dX10_lackedByAll_54 rfl hN (by decide) rfl ?_
          refine zw_iinc hC (v := (1 : Int32)) (lv' := [(2, .int (v27 + (1 : Int32))), (1, .int (v26 + v31)), (0, .ref (zad E 77))]) dX10_lackedByAll_55 2 rfl (by decide) hN (by decide) rfl ?_
          refine zw_goto hC 4 dX10_lackedByAll_58 (by decide) ?_
          exact zw_sub [2, 1, 0] rfl (ih4 (v26 + v31) (v27 + (1 : Int32)) hf)
        have hj52 : zf_X10_lackedByAll_j52 (fun x0 x1 => zf_X10_lackedByAll_L4 M K61 n4 x0 x1) v26 v27 = some r → ZW E 52 [(0, .ref (zad E 77)), (2, .int v27)] [.int v26] M := by
          intro  hf
          unfold zf_X10_lackedByAll_j52 at hf
          refine zw_iconst hC (v := (0 : Int32)) dX10_lackedByAll_52 (by decide) ?_
          exact hj53 (0 : Int32) hf
        refine zw_if_eq hC 52 hf dX10_lackedByAll_23 (by decide) (fun hf => ?_) (fun hf => ?_)
        · exact zw_sub [0, 2] rfl (hj52 hf)
        · refine zw_aload_n hC dX10_lackedByAll_26 rfl 0 rfl ?_
          refine zw_geti hC zF_Model_nowLazy zk_77 dX10_lackedByAll_27 kw_6_9 ?_
          refine zw_iload_n hC dX10_lackedByAll_30 rfl 2 rfl ?_
          obtain ⟨v32, hc32, hf⟩ := zb1_some hf
          refine zw_cS hC [.int (M 77 23), .int v27] [.int v26] (st1 := [.int v32, .int v26]) zm_X10_has (zc_X10_has hc32) kw_6_150 dX10_lackedByAll_31 rfl (by decide) (Nat.le_of_ble_eq_true rfl) rfl rfl ?_
          refine zw_if_ne hC 52 hf dX10_lackedByAll_34 (by decide) (fun hf => ?_) (fun hf => ?_)
          · exact zw_sub [0, 2] rfl (hj52 hf)
          · refine zw_aload_n hC dX10_lackedByAll_37 rfl 0 rfl ?_
            refine zw_iload_n hC dX10_lackedByAll_38 rfl 2 rfl ?_
            obtain ⟨v33, hc33, hf⟩ := zb1_some hf
            refine zw_cV hC [.int v27] [.int v26] (st1 := [.int v33, .int v26]) zm_X10_claim (zc_X10_claim hc33) zk_77 rfl kw_7_52 dX10_lackedByAll_39 rfl (by decide) (Nat.le_of_ble_eq_true rfl) rfl rfl ?_
            refine zw_aload_n hC dX10_lackedByAll_42 rfl 0 rfl ?_
            refine zw_getr (k' := 86) hC zF_Model_paid zk_77 rfl dX10_lackedByAll_43 kw_6_12 ?_
            refine zw_iload_n hC dX10_lackedByAll_46 rfl 2 rfl ?_
            refine zw_iald hC hf zk_86 dX10_lackedByAll_47 (fun v34 hf => ?_)
            refine zw_isub hC dX10_lackedByAll_48 ?_
            refine zw_goto hC 53 dX10_lackedByAll_49 (by decide) ?_
            exact zw_sub [0, 2] rfl (hj53 (v33 - v34) hf)
  refine zw_sub [2, 1, 0] rfl (hL4 _ ?_ n (0 : Int32) (0 : Int32) hf)
  · intro v35 hf
    refine zw_iload_n hC dX10_lackedByAll_61 rfl 0 rfl ?_
    have h1 := Option.some.inj hf
    subst h1
    exact zw_iret hC hR dX10_lackedByAll_62
/-! ClassOfManyModel.pays()V -/
theorem dX10_pays_0 : decode cX10_pays 0 = .ok (.iconst 0, 1) := by decide +kernel
theorem dX10_pays_1 : decode cX10_pays 1 = .ok (.istore_n 1, 1) := by decide +kernel
theorem dX10_pays_2 : decode cX10_pays 2 = .ok (.iload_n 1, 1) := by decide +kernel
theorem dX10_pays_3 : decode cX10_pays 3 = .ok (.bipush 90, 2) := by decide +kernel
theorem dX10_pays_5 : decode cX10_pays 5 = .ok (.if_icmp .ge 16, 3) := by decide +kernel
theorem dX10_pays_8 : decode cX10_pays 8 = .ok (.aload_n 0, 1) := by decide +kernel
theorem dX10_pays_9 : decode cX10_pays 9 = .ok (.getfield 37, 3) := by decide +kernel
theorem dX10_pays_12 : decode cX10_pays 12 = .ok (.iload_n 1, 1) := by decide +kernel
theorem dX10_pays_13 : decode cX10_pays 13 = .ok (.iconst 0, 1) := by decide +kernel
theorem dX10_pays_14 : decode cX10_pays 14 = .ok (.iastore, 1) := by decide +kernel
theorem dX10_pays_15 : decode cX10_pays 15 = .ok (.iinc 1 1, 3) := by decide +kernel
theorem dX10_pays_18 : decode cX10_pays 18 = .ok (.goto (-16), 3) := by decide +kernel
theorem dX10_pays_21 : decode cX10_pays 21 = .ok (.iconst 0, 1) := by decide +kernel
theorem dX10_pays_22 : decode cX10_pays 22 = .ok (.istore_n 1, 1) := by decide +kernel
theorem dX10_pays_23 : decode cX10_pays 23 = .ok (.iload_n 1, 1) := by decide +kernel
theorem dX10_pays_24 : decode cX10_pays 24 = .ok (.bipush 10, 2) := by decide +kernel
theorem dX10_pays_26 : decode cX10_pays 26 = .ok (.if_icmp .ge 16, 3) := by decide +kernel
theorem dX10_pays_29 : decode cX10_pays 29 = .ok (.aload_n 0, 1) := by decide +kernel
theorem dX10_pays_30 : decode cX10_pays 30 = .ok (.getfield 34, 3) := by decide +kernel
theorem dX10_pays_33 : decode cX10_pays 33 = .ok (.iload_n 1, 1) := by decide +kernel
theorem dX10_pays_34 : decode cX10_pays 34 = .ok (.iconst 0, 1) := by decide +kernel
theorem dX10_pays_35 : decode cX10_pays 35 = .ok (.iastore, 1) := by decide +kernel
theorem dX10_pays_36 : decode cX10_pays 36 = .ok (.iinc 1 1, 3) := by decide +kernel
theorem dX10_pays_39 : decode cX10_pays 39 = .ok (.goto (-16), 3) := by decide +kernel
theorem dX10_pays_42 : decode cX10_pays 42 = .ok (.aload_n 0, 1) := by decide +kernel
theorem dX10_pays_43 : decode cX10_pays 43 = .ok (.aload_n 0, 1) := by decide +kernel
theorem dX10_pays_44 : decode cX10_pays 44 = .ok (.invokevirtual 256, 3) := by decide +kernel
theorem dX10_pays_47 : decode cX10_pays 47 = .ok (.putfield 265, 3) := by decide +kernel
theorem dX10_pays_50 : decode cX10_pays 50 = .ok (.aload_n 0, 1) := by decide +kernel
theorem dX10_pays_51 : decode cX10_pays 51 = .ok (.iconst 0, 1) := by decide +kernel
theorem dX10_pays_52 : decode cX10_pays 52 = .ok (.putfield 268, 3) := by decide +kernel
theorem dX10_pays_55 : decode cX10_pays 55 = .ok (.iconst 0, 1) := by decide +kernel
theorem dX10_pays_56 : decode cX10_pays 56 = .ok (.istore_n 1, 1) := by decide +kernel
theorem dX10_pays_57 : decode cX10_pays 57 = .ok (.iload_n 1, 1) := by decide +kernel
theorem dX10_pays_58 : decode cX10_pays 58 = .ok (.aload_n 0, 1) := by decide +kernel
theorem dX10_pays_59 : decode cX10_pays 59 = .ok (.getfield 217, 3) := by decide +kernel
theorem dX10_pays_62 : decode cX10_pays 62 = .ok (.if_icmp .ge 35, 3) := by decide +kernel
theorem dX10_pays_65 : decode cX10_pays 65 = .ok (.aload_n 0, 1) := by decide +kernel
theorem dX10_pays_66 : decode cX10_pays 66 = .ok (.getfield 40, 3) := by decide +kernel
theorem dX10_pays_69 : decode cX10_pays 69 = .ok (.iload_n 1, 1) := by decide +kernel
theorem dX10_pays_70 : decode cX10_pays 70 = .ok (.aload_n 0, 1) := by decide +kernel
theorem dX10_pays_71 : decode cX10_pays 71 = .ok (.iload_n 1, 1) := by decide +kernel
theorem dX10_pays_72 : decode cX10_pays 72 = .ok (.invokevirtual 271, 3) := by decide +kernel
theorem dX10_pays_75 : decode cX10_pays 75 = .ok (.iastore, 1) := by decide +kernel
theorem dX10_pays_76 : decode cX10_pays 76 = .ok (.aload_n 0, 1) := by decide +kernel
theorem dX10_pays_77 : decode cX10_pays 77 = .ok (.getfield 43, 3) := by decide +kernel
theorem dX10_pays_80 : decode cX10_pays 80 = .ok (.iload_n 1, 1) := by decide +kernel
theorem dX10_pays_81 : decode cX10_pays 81 = .ok (.aload_n 0, 1) := by decide +kernel
theorem dX10_pays_82 : decode cX10_pays 82 = .ok (.aload_n 0, 1) := by decide +kernel
theorem dX10_pays_83 : decode cX10_pays 83 = .ok (.iload_n 1, 1) := by decide +kernel
theorem dX10_pays_84 : decode cX10_pays 84 = .ok (.invokevirtual 253, 3) := by decide +kernel
theorem dX10_pays_87 : decode cX10_pays 87 = .ok (.invokevirtual 259, 3) := by decide +kernel
theorem dX10_pays_90 : decode cX10_pays 90 = .ok (.iastore, 1) := by decide +kernel
theorem dX10_pays_91 : decode cX10_pays 91 = .ok (.iinc 1 1, 3) := by decide +kernel
theorem dX10_pays_94 : decode cX10_pays 94 = .ok (.goto (-37), 3) := by decide +kernel
theorem dX10_pays_97 : decode cX10_pays 97 = .ok (.iconst 1, 1) := by decide +kernel
theorem dX10_pays_98 : decode cX10_pays 98 = .ok (.istore_n 1, 1) := by decide +kernel
theorem dX10_pays_99 : decode cX10_pays 99 = .ok (.iload_n 1, 1) := by decide +kernel
theorem dX10_pays_100 : decode cX10_pays 100 = .ok (.ifCond .eq 261, 3) := by decide +kernel
theorem dX10_pays_103 : decode cX10_pays 103 = .ok (.aload_n 0, 1) := by decide +kernel
theorem dX10_pays_104 : decode cX10_pays 104 = .ok (.getfield 268, 3) := by decide +kernel
theorem dX10_pays_107 : decode cX10_pays 107 = .ok (.bipush 9, 2) := by decide +kernel
theorem dX10_pays_109 : decode cX10_pays 109 = .ok (.if_icmp .ge 252, 3) := by decide +kernel
theorem dX10_pays_112 : decode cX10_pays 112 = .ok (.aload_n 0, 1) := by decide +kernel
theorem dX10_pays_113 : decode cX10_pays 113 = .ok (.invokevirtual 274, 3) := by decide +kernel
theorem dX10_pays_116 : decode cX10_pays 116 = .ok (.istore_n 2, 1) := by decide +kernel
theorem dX10_pays_117 : decode cX10_pays 117 = .ok (.iconst 0, 1) := by decide +kernel
theorem dX10_pays_118 : decode cX10_pays 118 = .ok (.istore_n 3, 1) := by decide +kernel
theorem dX10_pays_119 : decode cX10_pays 119 = .ok (.iconst 0, 1) := by decide +kernel
theorem dX10_pays_120 : decode cX10_pays 120 = .ok (.istore 4, 2) := by decide +kernel
theorem dX10_pays_122 : decode cX10_pays 122 = .ok (.iload 4, 2) := by decide +kernel
theorem dX10_pays_124 : decode cX10_pays 124 = .ok (.aload_n 0, 1) := by decide +kernel
theorem dX10_pays_125 : decode cX10_pays 125 = .ok (.getfield 7, 3) := by decide +kernel
theorem dX10_pays_128 : decode cX10_pays 128 = .ok (.iconst 0, 1) := by decide +kernel
theorem dX10_pays_129 : decode cX10_pays 129 = .ok (.iaload, 1) := by decide +kernel
theorem dX10_pays_130 : decode cX10_pays 130 = .ok (.if_icmp .ge 145, 3) := by decide +kernel
theorem dX10_pays_133 : decode cX10_pays 133 = .ok (.aload_n 0, 1) := by decide +kernel
theorem dX10_pays_134 : decode cX10_pays 134 = .ok (.getfield 235, 3) := by decide +kernel
theorem dX10_pays_137 : decode cX10_pays 137 = .ok (.iload 4, 2) := by decide +kernel
theorem dX10_pays_139 : decode cX10_pays 139 = .ok (.invokestatic 118, 3) := by decide +kernel
theorem dX10_pays_142 : decode cX10_pays 142 = .ok (.ifCond .eq 127, 3) := by decide +kernel
theorem dX10_pays_145 : decode cX10_pays 145 = .ok (.aload_n 0, 1) := by decide +kernel
theorem dX10_pays_146 : decode cX10_pays 146 = .ok (.getfield 238, 3) := by decide +kernel
theorem dX10_pays_149 : decode cX10_pays 149 = .ok (.iload 4, 2) := by decide +kernel
theorem dX10_pays_151 : decode cX10_pays 151 = .ok (.invokestatic 118, 3) := by decide +kernel
theorem dX10_pays_154 : decode cX10_pays 154 = .ok (.ifCond .ne 115, 3) := by decide +kernel
theorem dX10_pays_157 : decode cX10_pays 157 = .ok (.aload_n 0, 1) := by decide +kernel
theorem dX10_pays_158 : decode cX10_pays 158 = .ok (.iload 4, 2) := by decide +kernel
theorem dX10_pays_160 : decode cX10_pays 160 = .ok (.invokevirtual 211, 3) := by decide +kernel
theorem dX10_pays_163 : decode cX10_pays 163 = .ok (.aload_n 0, 1) := by decide +kernel
theorem dX10_pays_164 : decode cX10_pays 164 = .ok (.getfield 34, 3) := by decide +kernel
theorem dX10_pays_167 : decode cX10_pays 167 = .ok (.iload 4, 2) := by decide +kernel
theorem dX10_pays_169 : decode cX10_pays 169 = .ok (.iaload, 1) := by decide +kernel
theorem dX10_pays_170 : decode cX10_pays 170 = .ok (.if_icmp .ne 6, 3) := by decide +kernel
theorem dX10_pays_173 : decode cX10_pays 173 = .ok (.goto 96, 3) := by decide +kernel
theorem dX10_pays_176 : decode cX10_pays 176 = .ok (.aload_n 0, 1) := by decide +kernel
theorem dX10_pays_177 : decode cX10_pays 177 = .ok (.getfield 268, 3) := by decide +kernel
theorem dX10_pays_180 : decode cX10_pays 180 = .ok (.ifCond .ne 41, 3) := by decide +kernel
theorem dX10_pays_183 : decode cX10_pays 183 = .ok (.aload_n 0, 1) := by decide +kernel
theorem dX10_pays_184 : decode cX10_pays 184 = .ok (.aload_n 0, 1) := by decide +kernel
theorem dX10_pays_185 : decode cX10_pays 185 = .ok (.iload 4, 2) := by decide +kernel
theorem dX10_pays_187 : decode cX10_pays 187 = .ok (.invokevirtual 211, 3) := by decide +kernel
theorem dX10_pays_190 : decode cX10_pays 190 = .ok (.aload_n 0, 1) := by decide +kernel
theorem dX10_pays_191 : decode cX10_pays 191 = .ok (.getfield 40, 3) := by decide +kernel
theorem dX10_pays_194 : decode cX10_pays 194 = .ok (.aload_n 0, 1) := by decide +kernel
theorem dX10_pays_195 : decode cX10_pays 195 = .ok (.getfield 31, 3) := by decide +kernel
theorem dX10_pays_198 : decode cX10_pays 198 = .ok (.iload 4, 2) := by decide +kernel
theorem dX10_pays_200 : decode cX10_pays 200 = .ok (.iaload, 1) := by decide +kernel
theorem dX10_pays_201 : decode cX10_pays 201 = .ok (.iaload, 1) := by decide +kernel
theorem dX10_pays_202 : decode cX10_pays 202 = .ok (.i2l, 1) := by decide +kernel
theorem dX10_pays_203 : decode cX10_pays 203 = .ok (.aload_n 0, 1) := by decide +kernel
theorem dX10_pays_204 : decode cX10_pays 204 = .ok (.getfield 43, 3) := by decide +kernel
theorem dX10_pays_207 : decode cX10_pays 207 = .ok (.aload_n 0, 1) := by decide +kernel
theorem dX10_pays_208 : decode cX10_pays 208 = .ok (.getfield 31, 3) := by decide +kernel
theorem dX10_pays_211 : decode cX10_pays 211 = .ok (.iload 4, 2) := by decide +kernel
theorem dX10_pays_213 : decode cX10_pays 213 = .ok (.iaload, 1) := by decide +kernel
theorem dX10_pays_214 : decode cX10_pays 214 = .ok (.iaload, 1) := by decide +kernel
theorem dX10_pays_215 : decode cX10_pays 215 = .ok (.invokevirtual 277, 3) := by decide +kernel
theorem dX10_pays_218 : decode cX10_pays 218 = .ok (.goto 27, 3) := by decide +kernel
theorem dX10_pays_221 : decode cX10_pays 221 = .ok (.aload_n 0, 1) := by decide +kernel
theorem dX10_pays_222 : decode cX10_pays 222 = .ok (.aload_n 0, 1) := by decide +kernel
theorem dX10_pays_223 : decode cX10_pays 223 = .ok (.iload 4, 2) := by decide +kernel
theorem dX10_pays_225 : decode cX10_pays 225 = .ok (.invokevirtual 211, 3) := by decide +kernel
theorem dX10_pays_228 : decode cX10_pays 228 = .ok (.aload_n 0, 1) := by decide +kernel
theorem dX10_pays_229 : decode cX10_pays 229 = .ok (.getfield 34, 3) := by decide +kernel
theorem dX10_pays_232 : decode cX10_pays 232 = .ok (.iload 4, 2) := by decide +kernel
theorem dX10_pays_234 : decode cX10_pays 234 = .ok (.iaload, 1) := by decide +kernel
theorem dX10_pays_235 : decode cX10_pays 235 = .ok (.isub, 1) := by decide +kernel
theorem dX10_pays_236 : decode cX10_pays 236 = .ok (.aload_n 0, 1) := by decide +kernel
theorem dX10_pays_237 : decode cX10_pays 237 = .ok (.getfield 265, 3) := by decide +kernel
theorem dX10_pays_240 : decode cX10_pays 240 = .ok (.i2l, 1) := by decide +kernel
theorem dX10_pays_241 : decode cX10_pays 241 = .ok (.iload_n 2, 1) := by decide +kernel
theorem dX10_pays_242 : decode cX10_pays 242 = .ok (.invokevirtual 277, 3) := by decide +kernel
theorem dX10_pays_245 : decode cX10_pays 245 = .ok (.istore 5, 2) := by decide +kernel
theorem dX10_pays_247 : decode cX10_pays 247 = .ok (.aload_n 0, 1) := by decide +kernel
theorem dX10_pays_248 : decode cX10_pays 248 = .ok (.getfield 37, 3) := by decide +kernel
theorem dX10_pays_251 : decode cX10_pays 251 = .ok (.bipush 10, 2) := by decide +kernel
theorem dX10_pays_253 : decode cX10_pays 253 = .ok (.aload_n 0, 1) := by decide +kernel
theorem dX10_pays_254 : decode cX10_pays 254 = .ok (.getfield 268, 3) := by decide +kernel
theorem dX10_pays_257 : decode cX10_pays 257 = .ok (.imul, 1) := by decide +kernel
theorem dX10_pays_258 : decode cX10_pays 258 = .ok (.iload 4, 2) := by decide +kernel
theorem dX10_pays_260 : decode cX10_pays 260 = .ok (.iadd, 1) := by decide +kernel
theorem dX10_pays_261 : decode cX10_pays 261 = .ok (.iload 5, 2) := by decide +kernel
theorem dX10_pays_263 : decode cX10_pays 263 = .ok (.iastore, 1) := by decide +kernel
theorem dX10_pays_264 : decode cX10_pays 264 = .ok (.iload_n 3, 1) := by decide +kernel
theorem dX10_pays_265 : decode cX10_pays 265 = .ok (.iload 5, 2) := by decide +kernel
theorem dX10_pays_267 : decode cX10_pays 267 = .ok (.iadd, 1) := by decide +kernel
theorem dX10_pays_268 : decode cX10_pays 268 = .ok (.istore_n 3, 1) := by decide +kernel
theorem dX10_pays_269 : decode cX10_pays 269 = .ok (.iinc 4 1, 3) := by decide +kernel
theorem dX10_pays_272 : decode cX10_pays 272 = .ok (.goto (-150), 3) := by decide +kernel
theorem dX10_pays_275 : decode cX10_pays 275 = .ok (.iconst 0, 1) := by decide +kernel
theorem dX10_pays_276 : decode cX10_pays 276 = .ok (.istore 4, 2) := by decide +kernel
theorem dX10_pays_278 : decode cX10_pays 278 = .ok (.iload 4, 2) := by decide +kernel
theorem dX10_pays_280 : decode cX10_pays 280 = .ok (.aload_n 0, 1) := by decide +kernel
theorem dX10_pays_281 : decode cX10_pays 281 = .ok (.getfield 7, 3) := by decide +kernel
theorem dX10_pays_284 : decode cX10_pays 284 = .ok (.iconst 0, 1) := by decide +kernel
theorem dX10_pays_285 : decode cX10_pays 285 = .ok (.iaload, 1) := by decide +kernel
theorem dX10_pays_286 : decode cX10_pays 286 = .ok (.if_icmp .ge 34, 3) := by decide +kernel
theorem dX10_pays_289 : decode cX10_pays 289 = .ok (.aload_n 0, 1) := by decide +kernel
theorem dX10_pays_290 : decode cX10_pays 290 = .ok (.getfield 34, 3) := by decide +kernel
theorem dX10_pays_293 : decode cX10_pays 293 = .ok (.iload 4, 2) := by decide +kernel
theorem dX10_pays_295 : decode cX10_pays 295 = .ok (.dup2, 1) := by decide +kernel
theorem dX10_pays_296 : decode cX10_pays 296 = .ok (.iaload, 1) := by decide +kernel
theorem dX10_pays_297 : decode cX10_pays 297 = .ok (.aload_n 0, 1) := by decide +kernel
theorem dX10_pays_298 : decode cX10_pays 298 = .ok (.getfield 37, 3) := by decide +kernel
theorem dX10_pays_301 : decode cX10_pays 301 = .ok (.bipush 10, 2) := by decide +kernel
theorem dX10_pays_303 : decode cX10_pays 303 = .ok (.aload_n 0, 1) := by decide +kernel
theorem dX10_pays_304 : decode cX10_pays 304 = .ok (.getfield 268, 3) := by decide +kernel
theorem dX10_pays_307 : decode cX10_pays 307 = .ok (.imul, 1) := by decide +kernel
theorem dX10_pays_308 : decode cX10_pays 308 = .ok (.iload 4, 2) := by decide +kernel
theorem dX10_pays_310 : decode cX10_pays 310 = .ok (.iadd, 1) := by decide +kernel
theorem dX10_pays_311 : decode cX10_pays 311 = .ok (.iaload, 1) := by decide +kernel
theorem dX10_pays_312 : decode cX10_pays 312 = .ok (.iadd, 1) := by decide +kernel
theorem dX10_pays_313 : decode cX10_pays 313 = .ok (.iastore, 1) := by decide +kernel
theorem dX10_pays_314 : decode cX10_pays 314 = .ok (.iinc 4 1, 3) := by decide +kernel
theorem dX10_pays_317 : decode cX10_pays 317 = .ok (.goto (-39), 3) := by decide +kernel
theorem dX10_pays_320 : decode cX10_pays 320 = .ok (.aload_n 0, 1) := by decide +kernel
theorem dX10_pays_321 : decode cX10_pays 321 = .ok (.dup, 1) := by decide +kernel
theorem dX10_pays_322 : decode cX10_pays 322 = .ok (.getfield 265, 3) := by decide +kernel
theorem dX10_pays_325 : decode cX10_pays 325 = .ok (.iload_n 3, 1) := by decide +kernel
theorem dX10_pays_326 : decode cX10_pays 326 = .ok (.isub, 1) := by decide +kernel
theorem dX10_pays_327 : decode cX10_pays 327 = .ok (.putfield 265, 3) := by decide +kernel
theorem dX10_pays_330 : decode cX10_pays 330 = .ok (.iload_n 3, 1) := by decide +kernel
theorem dX10_pays_331 : decode cX10_pays 331 = .ok (.ifCond .le 7, 3) := by decide +kernel
theorem dX10_pays_334 : decode cX10_pays 334 = .ok (.iconst 1, 1) := by decide +kernel
theorem dX10_pays_335 : decode cX10_pays 335 = .ok (.goto 4, 3) := by decide +kernel
theorem dX10_pays_338 : decode cX10_pays 338 = .ok (.iconst 0, 1) := by decide +kernel
theorem dX10_pays_339 : decode cX10_pays 339 = .ok (.istore_n 1, 1) := by decide +kernel
theorem dX10_pays_340 : decode cX10_pays 340 = .ok (.aload_n 0, 1) := by decide +kernel
theorem dX10_pays_341 : decode cX10_pays 341 = .ok (.dup, 1) := by decide +kernel
theorem dX10_pays_342 : decode cX10_pays 342 = .ok (.getfield 268, 3) := by decide +kernel
theorem dX10_pays_345 : decode cX10_pays 345 = .ok (.iload_n 1, 1) := by decide +kernel
theorem dX10_pays_346 : decode cX10_pays 346 = .ok (.ifCond .eq 7, 3) := by decide +kernel
theorem dX10_pays_349 : decode cX10_pays 349 = .ok (.iconst 1, 1) := by decide +kernel
theorem dX10_pays_350 : decode cX10_pays 350 = .ok (.goto 4, 3) := by decide +kernel
theorem dX10_pays_353 : decode cX10_pays 353 = .ok (.iconst 0, 1) := by decide +kernel
theorem dX10_pays_354 : decode cX10_pays 354 = .ok (.iadd, 1) := by decide +kernel
theorem dX10_pays_355 : decode cX10_pays 355 = .ok (.putfield 268, 3) := by decide +kernel
theorem dX10_pays_358 : decode cX10_pays 358 = .ok (.goto (-259), 3) := by decide +kernel
theorem dX10_pays_361 : decode cX10_pays 361 = .ok (.return_, 1) := by decide +kernel
theorem zm_X10_pays : ZMv "ClassOfManyModel" yX10_pays cX10_pays 6 (none) 0 := ⟨kw_7_193, kw_7_192, kp_102, kw_1_10, by decide +kernel, by decide⟩
def zf_X10_pays_L2 (K21 : ZMem → Option (ZMem)) : Nat → Int32 → ZMem → Option (ZMem)
  | 0, _, _ => none
  | n2 + 1, v53, M54 =>
  (if (90 : Int32) ≤ v53 then (K21 M54) else zst M54 87 90 v53 (0 : Int32) (fun M56 => (zf_X10_pays_L2 K21 n2 (v53 + (1 : Int32)) M56)))
def zf_X10_pays_L23 (K42 : ZMem → Option (ZMem)) : Nat → Int32 → ZMem → Option (ZMem)
  | 0, _, _ => none
  | n23 + 1, v58, M59 =>
  (if (10 : Int32) ≤ v58 then (K42 M59) else zst M59 86 10 v58 (0 : Int32) (fun M61 => (zf_X10_pays_L23 K42 n23 (v58 + (1 : Int32)) M61)))
def zf_X10_pays_L57 (n : Nat) (K97 : ZMem → Option (ZMem)) : Nat → Int32 → ZMem → Option (ZMem)
  | 0, _, _ => none
  | n57 + 1, v66, M67 =>
  (if (M67 77 20) ≤ v66 then (K97 M67) else zb1 (zf_X10_potOf n v66 M67) (fun v69 => zst M67 88 10 v66 v69 (fun M70 => zb1 (zf_X10_countedIn n v66 M70) (fun v71 => zb1 (zf_X10_claims n v71 M70) (fun v72 => zst M70 89 10 v66 v72 (fun M73 => (zf_X10_pays_L57 n K97 n57 (v66 + (1 : Int32)) M73)))))))
def zf_X10_pays_j269 (R122 : Int32 → Int32 → ZMem → Option (ZMem)) (v80 : Int32) (v86 : Int32) (M87 : ZMem) : Option (ZMem) :=
  (R122 v86 (v80 + (1 : Int32)) M87)
def zf_X10_pays_j245 (M81 : ZMem) (v80 : Int32) (R122 : Int32 → Int32 → ZMem → Option (ZMem)) (v79 : Int32) (v91 : Int32) : Option (ZMem) :=
  zst M81 87 90 (((10 : Int32) * (M81 77 28)) + v80) v91 (fun M92 => (zf_X10_pays_j269 R122 v80 (v79 + v91) M92))
def zf_X10_pays_L122 (v78 : Int32) (K275 : Int32 → ZMem → Option (ZMem)) : Nat → Int32 → Int32 → ZMem → Option (ZMem)
  | 0, _, _, _ => none
  | n122 + 1, v79, v80, M81 =>
  zrd M81 78 73 (0 : Int32) (fun v84 => (if v84 ≤ v80 then (K275 v79 M81) else zb1 (zf_X10_has (M81 77 22) v80) (fun v85 => (if v85 = 0 then (zf_X10_pays_j269 (fun x0 x1 x2 => zf_X10_pays_L122 v78 K275 n122 x0 x1 x2) v80 v79 M81) else zb1 (zf_X10_has (M81 77 23) v80) (fun v88 => (if v88 = 0 then zb1 (zf_X10_claim v80 M81) (fun v89 => zrd M81 86 10 v80 (fun v90 => (if v89 = v90 then (zf_X10_pays_j269 (fun x0 x1 x2 => zf_X10_pays_L122 v78 K275 n122 x0 x1 x2) v80 v79 M81) else (if (M81 77 28) = 0 then zb1 (zf_X10_claim v80 M81) (fun v96 => zrd M81 85 10 v80 (fun v97 => zrd M81 88 10 v97 (fun v98 => zrd M81 85 10 v80 (fun v99 => zrd M81 89 10 v99 (fun v100 => zb1 (zf_X10_sent v96 (v98.toInt64) v100 M81) (fun v101 => (zf_X10_pays_j245 M81 v80 (fun x0 x1 x2 => zf_X10_pays_L122 v78 K275 n122 x0 x1 x2) v79 v101))))))) else zb1 (zf_X10_claim v80 M81) (fun v93 => zrd M81 86 10 v80 (fun v94 => zb1 (zf_X10_sent (v93 - v94) ((M81 77 29).toInt64) v78 M81) (fun v95 => (zf_X10_pays_j245 M81 v80 (fun x0 x1 x2 => zf_X10_pays_L122 v78 K275 n122 x0 x1 x2) v79 v95)))))))) else (zf_X10_pays_j269 (fun x0 x1 x2 => zf_X10_pays_L122 v78 K275 n122 x0 x1 x2) v80 v79 M81)))))))
def zf_X10_pays_L278 (K320 : ZMem → Option (ZMem)) : Nat → Int32 → ZMem → Option (ZMem)
  | 0, _, _ => none
  | n278 + 1, v104, M105 =>
  zrd M105 78 73 (0 : Int32) (fun v107 => (if v107 ≤ v104 then (K320 M105) else zrd M105 86 10 v104 (fun v108 => zrd M105 87 90 (((10 : Int32) * (M105 77 28)) + v104) (fun v109 => zst M105 86 10 v104 (v108 + v109) (fun M110 => (zf_X10_pays_L278 K320 n278 (v104 + (1 : Int32)) M110))))))
def zf_X10_pays_j354 (M112 : ZMem) (R99 : Int32 → ZMem → Option (ZMem)) (v113 : Int32) (v114 : Int32) : Option (ZMem) :=
  zput M112 77 28 ((M112 77 28) + v114) (fun M115 => (R99 v113 M115))
def zf_X10_pays_j339 (M112 : ZMem) (R99 : Int32 → ZMem → Option (ZMem)) (v113 : Int32) : Option (ZMem) :=
  (if v113 = 0 then (zf_X10_pays_j354 M112 R99 v113 (0 : Int32)) else (zf_X10_pays_j354 M112 R99 v113 (1 : Int32)))
def zf_X10_pays_L99 (n : Nat) (K361 : ZMem → Option (ZMem)) : Nat → Int32 → ZMem → Option (ZMem)
  | 0, _, _ => none
  | n99 + 1, v75, M76 =>
  (if v75 = 0 then (K361 M76) else (if (9 : Int32) ≤ (M76 77 28) then (K361 M76) else zb1 (zf_X10_lackedByAll n M76) (fun v78 => (zf_X10_pays_L122 v78 (fun v102 M103 => (zf_X10_pays_L278 (fun M111 => zput M111 77 29 ((M111 77 29) - v102) (fun M112 => (if v102 ≤ 0 then (zf_X10_pays_j339 M112 (fun x0 x1 => zf_X10_pays_L99 n K361 n99 x0 x1) (0 : Int32)) else (zf_X10_pays_j339 M112 (fun x0 x1 => zf_X10_pays_L99 n K361 n99 x0 x1) (1 : Int32))))) n (0 : Int32) M103)) n (0 : Int32) (0 : Int32) M76))))
def zf_X10_pays (n : Nat) (M : ZMem) : Option (ZMem) :=
  (zf_X10_pays_L2 (fun M57 => (zf_X10_pays_L23 (fun M62 => zb1 (zf_X10_net n M62) (fun v63 => zput M62 77 29 v63 (fun M64 => zput M64 77 28 (0 : Int32) (fun M65 => (zf_X10_pays_L57 n (fun M74 => (zf_X10_pays_L99 n (fun M116 => some M116) n (1 : Int32) M74)) n (0 : Int32) M65))))) n (0 : Int32) M57)) n (0 : Int32) M)
set_option maxHeartbeats 4000000 in
set_option maxRecDepth 100000 in
theorem zc_X10_pays {l : Launch} {D : va_G} {ad : Nat → Nat} {cA : Nat → ClassId} {n : Nat} {M : ZMem} {M' : ZMem} (hf : zf_X10_pays n M = some M') : ZCt l D ad cA yX10_pays cX10_pays 6 (none) 6 [.ref (ad 77)] M none M' := by
  refine zct (by decide +kernel) (Nat.le_of_ble_eq_true rfl) (lv := [(0, .ref (ad 77))]) rfl (fun E hl hD had hcA hN hC hR => ?_)
  subst hl; subst hD; subst had; subst hcA
  unfold zf_X10_pays at hf
  refine zw_iconst hC (v := (0 : Int32)) dX10_pays_0 (by decide) ?_
  refine zw_istore_n hC (lv' := [(1, .int (0 : Int32)), (0, .ref (zad E 77))]) dX10_pays_1 rfl hN (by decide) rfl ?_
  have hL2 : ∀ (K21 : ZMem → Option (ZMem)), (∀ (M55 : ZMem), K21 M55 = some M' → ZW E 21 [(0, .ref (zad E 77))] [] M55) → ∀ (n2 : Nat), ∀ (v53 : Int32), ∀ (M54 : ZMem), zf_X10_pays_L2 K21 n2 v53 M54 = some M' → ZW E 2 [(0, .ref (zad E 77)), (1, .int v53)] [] M54 := by
    intro K21 hK21
    intro n2
    induction n2 with
    | zero => intro v53 M54 hf; rw [zf_X10_pays_L2] at hf; cases hf
    | succ n2 ih2 =>
      intro v53 M54 hf
      rw [zf_X10_pays_L2] at hf
      refine zw_iload_n hC dX10_pays_2 rfl 1 rfl ?_
      refine zw_bipush hC (v := (90 : Int32)) dX10_pays_3 (by decide) ?_
      refine zw_icmp_ge hC 21 hf dX10_pays_5 (by decide) (fun hf => ?_) (fun hf => ?_)
      · exact zw_sub [0] rfl (hK21 M54 hf)
      · refine zw_aload_n hC dX10_pays_8 rfl 0 rfl ?_
        refine zw_getr (k' := 87) hC zF_Model_hadIn zk_77 rfl dX10_pays_9 kw_6_13 ?_
        refine zw_iload_n hC dX10_pays_12 rfl 1 rfl ?_
        refine zw_iconst hC (v := (0 : Int32)) dX10_pays_13 (by decide) ?_
        refine zw_iast hC hf zk_87 dX10_pays_14 (fun M56 hf => ?_)
        refine zw_iinc hC (v := (1 : Int32)) (lv' := [(1, .int (v53 + (1 : Int32))), (0, .ref (zad E 77))]) dX10_pays_15 1 rfl (by decide) hN (by decide) rfl ?_
        refine zw_goto hC 2 dX10_pays_18 (by decide) ?_
        exact zw_sub [1, 0] rfl (ih2 (v53 + (1 : Int32)) M56 hf)
  refine zw_sub [1, 0] rfl (hL2 _ ?_ n (0 : Int32) M hf)
  · intro M57 hf
    refine zw_iconst hC (v := (0 : Int32)) dX10_pays_21 (by decide) ?_
    refine zw_istore_n hC (lv' := [(1, .int (0 : Int32)), (0, .ref (zad E 77))]) dX10_pays_22 rfl hN (by decide) rfl ?_
    have hL23 : ∀ (K42 : ZMem → Option (ZMem)), (∀ (M60 : ZMem), K42 M60 = some M' → ZW E 42 [(0, .ref (zad E 77))] [] M60) → ∀ (n23 : Nat), ∀ (v58 : Int32), ∀ (M59 : ZMem), zf_X10_pays_L23 K42 n23 v58 M59 = some M' → ZW E 23 [(0, .ref (zad E 77)), (1, .int v58)] [] M59 := by
      intro K42 hK42
      intro n23
      induction n23 with
      | zero => intro v58 M59 hf; rw [zf_X10_pays_L23] at hf; cases hf
      | succ n23 ih23 =>
        intro v58 M59 hf
        rw [zf_X10_pays_L23] at hf
        refine zw_iload_n hC dX10_pays_23 rfl 1 rfl ?_
        refine zw_bipush hC (v := (10 : Int32)) dX10_pays_24 (by decide) ?_
        refine zw_icmp_ge hC 42 hf dX10_pays_26 (by decide) (fun hf => ?_) (fun hf => ?_)
        · exact zw_sub [0] rfl (hK42 M59 hf)
        · refine zw_aload_n hC dX10_pays_29 rfl 0 rfl ?_
          refine zw_getr (k' := 86) hC zF_Model_paid zk_77 rfl dX10_pays_30 kw_6_12 ?_
          refine zw_iload_n hC dX10_pays_33 rfl 1 rfl ?_
          refine zw_iconst hC (v := (0 : Int32)) dX10_pays_34 (by decide) ?_
          refine zw_iast hC hf zk_86 dX10_pays_35 (fun M61 hf => ?_)
          refine zw_iinc hC (v := (1 : Int32)) (lv' := [(1, .int (v58 + (1 : Int32))), (0, .ref (zad E 77))]) dX10_pays_36 1 rfl (by decide) hN (by decide) rfl ?_
          refine zw_goto hC 23 dX10_pays_39 (by decide) ?_
          exact zw_sub [1, 0] rfl (ih23 (v58 + (1 : Int32)) M61 hf)
    refine zw_sub [1, 0] rfl (hL23 _ ?_ n (0 : Int32) M57 hf)
    · intro M62 hf
      refine zw_aload_n hC dX10_pays_42 rfl 0 rfl ?_
      refine zw_aload_n hC dX10_pays_43 rfl 0 rfl ?_
      obtain ⟨v63, hc63, hf⟩ := zb1_some hf
      refine zw_cV hC [] [.ref (zad E 77)] (st1 := [.int v63, .ref (zad E 77)]) zm_X10_net (zc_X10_net hc63) zk_77 rfl kw_7_194 dX10_pays_44 rfl (by decide) (Nat.le_of_ble_eq_true rfl) rfl rfl ?_
      refine zw_puti hC hf zF_Model_left zk_77 dX10_pays_47 kw_6_15 (fun M64 hf => ?_)
      refine zw_aload_n hC dX10_pays_50 rfl 0 rfl ?_
      refine zw_iconst hC (v := (0 : Int32)) dX10_pays_51 (by decide) ?_
      refine zw_puti hC hf zF_Model_rounds zk_77 dX10_pays_52 kw_6_14 (fun M65 hf => ?_)
      refine zw_iconst hC (v := (0 : Int32)) dX10_pays_55 (by decide) ?_
      refine zw_istore_n hC (lv' := [(1, .int (0 : Int32)), (0, .ref (zad E 77))]) dX10_pays_56 rfl hN (by decide) rfl ?_
      have hL57 : ∀ (K97 : ZMem → Option (ZMem)), (∀ (M68 : ZMem), K97 M68 = some M' → ZW E 97 [(0, .ref (zad E 77))] [] M68) → ∀ (n57 : Nat), ∀ (v66 : Int32), ∀ (M67 : ZMem), zf_X10_pays_L57 n K97 n57 v66 M67 = some M' → ZW E 57 [(0, .ref (zad E 77)), (1, .int v66)] [] M67 := by
        intro K97 hK97
        intro n57
        induction n57 with
        | zero => intro v66 M67 hf; rw [zf_X10_pays_L57] at hf; cases hf
        | succ n57 ih57 =>
          intro v66 M67 hf
          rw [zf_X10_pays_L57] at hf
          refine zw_iload_n hC dX10_pays_57 rfl 1 rfl ?_
          refine zw_aload_n hC dX10_pays_58 rfl 0 rfl ?_
          refine zw_geti hC zF_Model_parts zk_77 dX10_pays_59 kw_6_6 ?_
          refine zw_icmp_ge hC 97 hf dX10_pays_62 (by decide) (fun hf => ?_) (fun hf => ?_)
          · exact zw_sub [0] rfl (hK97 M67 hf)
          · refine zw_aload_n hC dX10_pays_65 rfl 0 rfl ?_
            refine zw_getr (k' := 88) hC zF_Model_pots zk_77 rfl dX10_pays_66 kw_6_16 ?_
            refine zw_iload_n hC dX10_pays_69 rfl 1 rfl ?_
            refine zw_aload_n hC dX10_pays_70 rfl 0 rfl ?_
            refine zw_iload_n hC dX10_pays_71 rfl 1 rfl ?_
            obtain ⟨v69, hc69, hf⟩ := zb1_some hf
            refine zw_cV hC [.int v66] [.int v66, .ref (zad E 88)] (st1 := [.int v69, .int v66, .ref (zad E 88)]) zm_X10_potOf (zc_X10_potOf hc69) zk_77 rfl kw_7_198 dX10_pays_72 rfl (by decide) (Nat.le_of_ble_eq_true rfl) rfl rfl ?_
            refine zw_iast hC hf zk_88 dX10_pays_75 (fun M70 hf => ?_)
            refine zw_aload_n hC dX10_pays_76 rfl 0 rfl ?_
            refine zw_getr (k' := 89) hC zF_Model_potClaims zk_77 rfl dX10_pays_77 kw_6_17 ?_
            refine zw_iload_n hC dX10_pays_80 rfl 1 rfl ?_
            refine zw_aload_n hC dX10_pays_81 rfl 0 rfl ?_
            refine zw_aload_n hC dX10_pays_82 rfl 0 rfl ?_
            refine zw_iload_n hC dX10_pays_83 rfl 1 rfl ?_
            obtain ⟨v71, hc71, hf⟩ := zb1_some hf
            refine zw_cV hC [.int v66] [.ref (zad E 77), .int v66, .ref (zad E 89)] (st1 := [.int v71, .ref (zad E 77), .int v66, .ref (zad E 89)]) zm_X10_countedIn (zc_X10_countedIn hc71) zk_77 rfl kw_7_202 dX10_pays_84 rfl (by decide) (Nat.le_of_ble_eq_true rfl) rfl rfl ?_
            obtain ⟨v72, hc72, hf⟩ := zb1_some hf
            refine zw_cV hC [.int v71] [.int v66, .ref (zad E 89)] (st1 := [.int v72, .int v66, .ref (zad E 89)]) zm_X10_claims (zc_X10_claims hc72) zk_77 rfl kw_7_48 dX10_pays_87 rfl (by decide) (Nat.le_of_ble_eq_true rfl) rfl rfl ?_
            refine zw_iast hC hf zk_89 dX10_pays_90 (fun M73 hf => ?_)
            refine zw_iinc hC (v := (1 : Int32)) (lv' := [(1, .int (v66 + (1 : Int32))), (0, .ref (zad E 77))]) dX10_pays_91 1 rfl (by decide) hN (by decide) rfl ?_
            refine zw_goto hC 57 dX10_pays_94 (by decide) ?_
            exact zw_sub [1, 0] rfl (ih57 (v66 + (1 : Int32)) M73 hf)
      refine zw_sub [1, 0] rfl (hL57 _ ?_ n (0 : Int32) M65 hf)
      · intro M74 hf
        refine zw_iconst hC (v := (1 : Int32)) dX10_pays_97 (by decide) ?_
        refine zw_istore_n hC (lv' := [(1, .int (1 : Int32)), (0, .ref (zad E 77))]) dX10_pays_98 rfl hN (by decide) rfl ?_
        have hL99 : ∀ (K361 : ZMem → Option (ZMem)), (∀ (M77 : ZMem), K361 M77 = some M' → ZW E 361 [] [] M77) → ∀ (n99 : Nat), ∀ (v75 : Int32), ∀ (M76 : ZMem), zf_X10_pays_L99 n K361 n99 v75 M76 = some M' → ZW E 99 [(0, .ref (zad E 77)), (1, .int v75)] [] M76 := by
          intro K361 hK361
          intro n99
          induction n99 with
          | zero => intro v75 M76 hf; rw [zf_X10_pays_L99] at hf; cases hf
          | succ n99 ih99 =>
            intro v75 M76 hf
            rw [zf_X10_pays_L99] at hf
            refine zw_iload_n hC dX10_pays_99 rfl 1 rfl ?_
            refine zw_if_eq hC 361 hf dX10_pays_100 (by decide) (fun hf => ?_) (fun hf => ?_)
            · exact zw_sub [] rfl (hK361 M76 hf)
            · refine zw_aload_n hC dX10_pays_103 rfl 0 rfl ?_
              refine zw_geti hC zF_Model_rounds zk_77 dX10_pays_104 kw_6_14 ?_
              refine zw_bipush hC (v := (9 : Int32)) dX10_pays_107 (by decide) ?_
              refine zw_icmp_ge hC 361 hf dX10_pays_109 (by decide) (fun hf => ?_) (fun hf => ?_)
              · exact zw_sub [] rfl (hK361 M76 hf)
              · refine zw_aload_n hC dX10_pays_112 rfl 0 rfl ?_
                obtain ⟨v78, hc78, hf⟩ := zb1_some hf
                refine zw_cV hC [] [] (st1 := [.int v78]) zm_X10_lackedByAll (zc_X10_lackedByAll hc78) zk_77 rfl kw_7_206 dX10_pays_113 rfl (by decide) (Nat.le_of_ble_eq_true rfl) rfl rfl ?_
                refine zw_istore_n hC (lv' := [(2, .int v78), (0, .ref (zad E 77)), (1, .int v75)]) dX10_pays_116 rfl hN (by decide) rfl ?_
                refine zw_iconst hC (v := (0 : Int32)) dX10_pays_117 (by decide) ?_
                refine zw_istore_n hC (lv' := [(3, .int (0 : Int32)), (2, .int v78), (0, .ref (zad E 77)), (1, .int v75)]) dX10_pays_118 rfl hN (by decide) rfl ?_
                refine zw_iconst hC (v := (0 : Int32)) dX10_pays_119 (by decide) ?_
                refine zw_istore hC (lv' := [(4, .int (0 : Int32)), (3, .int (0 : Int32)), (2, .int v78), (0, .ref (zad E 77)), (1, .int v75)]) dX10_pays_120 hN (by decide) rfl ?_
                have hL122 : ∀ (K275 : Int32 → ZMem → Option (ZMem)), (∀ (v82 : Int32), ∀ (M83 : ZMem), K275 v82 M83 = some M' → ZW E 275 [(0, .ref (zad E 77)), (3, .int v82)] [] M83) → ∀ (n122 : Nat), ∀ (v79 : Int32), ∀ (v80 : Int32), ∀ (M81 : ZMem), zf_X10_pays_L122 v78 K275 n122 v79 v80 M81 = some M' → ZW E 122 [(0, .ref (zad E 77)), (2, .int v78), (3, .int v79), (4, .int v80)] [] M81 := by
                  intro K275 hK275
                  intro n122
                  induction n122 with
                  | zero => intro v79 v80 M81 hf; rw [zf_X10_pays_L122] at hf; cases hf
                  | succ n122 ih122 =>
                    intro v79 v80 M81 hf
                    rw [zf_X10_pays_L122] at hf
                    refine zw_iload hC dX10_pays_122 3 rfl ?_
                    refine zw_aload_n hC dX10_pays_124 rfl 0 rfl ?_
                    refine zw_getr (k' := 78) hC zF_Model_now zk_77 rfl dX10_pays_125 kw_5_227 ?_
                    refine zw_iconst hC (v := (0 : Int32)) dX10_pays_128 (by decide) ?_
                    refine zw_iald hC hf zk_78 dX10_pays_129 (fun v84 hf => ?_)
                    refine zw_icmp_ge hC 275 hf dX10_pays_130 (by decide) (fun hf => ?_) (fun hf => ?_)
                    · exact zw_sub [0, 2] rfl (hK275 v79 M81 hf)
                    · refine zw_aload_n hC dX10_pays_133 rfl 0 rfl ?_
                      refine zw_geti hC zF_Model_nowCounted zk_77 dX10_pays_134 kw_6_8 ?_
                      refine zw_iload hC dX10_pays_137 3 rfl ?_
                      obtain ⟨v85, hc85, hf⟩ := zb1_some hf
                      refine zw_cS hC [.int (M81 77 22), .int v80] [] (st1 := [.int v85]) zm_X10_has (zc_X10_has hc85) kw_6_150 dX10_pays_139 rfl (by decide) (Nat.le_of_ble_eq_true rfl) rfl rfl ?_
                      have hj269 : ∀ (v86 : Int32), ∀ (M87 : ZMem), zf_X10_pays_j269 (fun x0 x1 x2 => zf_X10_pays_L122 v78 K275 n122 x0 x1 x2) v80 v86 M87 = some M' → ZW E 269 [(0, .ref (zad E 77)), (2, .int v78), (3, .int v86), (4, .int v80)] [] M87 := by
                        intro v86 M87 hf
                        unfold zf_X10_pays_j269 at hf
                        refine zw_iinc hC (v := (1 : Int32)) (lv' := [(4, .int (v80 + (1 : Int32))), (0, .ref (zad E 77)), (2, .int v78), (3, .int v86)]) dX10_pays_269 3 rfl (by decide) hN (by decide) rfl ?_
                        refine zw_goto hC 122 dX10_pays_272 (by decide) ?_
                        exact zw_sub [1, 2, 3, 0] rfl (ih122 v86 (v80 + (1 : Int32)) M87 hf)
                      refine zw_if_eq hC 269 hf dX10_pays_142 (by decide) (fun hf => ?_) (fun hf => ?_)
                      · exact hj269 v79 M81 hf
                      · refine zw_aload_n hC dX10_pays_145 rfl 0 rfl ?_
                        refine zw_geti hC zF_Model_nowLazy zk_77 dX10_pays_146 kw_6_9 ?_
                        refine zw_iload hC dX10_pays_149 3 rfl ?_
                        obtain ⟨v88, hc88, hf⟩ := zb1_some hf
                        refine zw_cS hC [.int (M81 77 23), .int v80] [] (st1 := [.int v88]) zm_X10_has (zc_X10_has hc88) kw_6_150 dX10_pays_151 rfl (by decide) (Nat.le_of_ble_eq_true rfl) rfl rfl ?_
                        refine zw_if_ne hC 269 hf dX10_pays_154 (by decide) (fun hf => ?_) (fun hf => ?_)
                        · exact hj269 v79 M81 hf
                        · refine zw_aload_n hC dX10_pays_157 rfl 0 rfl ?_
                          refine zw_iload hC dX10_pays_158 3 rfl ?_
                          obtain ⟨v89, hc89, hf⟩ := zb1_some hf
                          refine zw_cV hC [.int v80] [] (st1 := [.int v89]) zm_X10_claim (zc_X10_claim hc89) zk_77 rfl kw_7_52 dX10_pays_160 rfl (by decide) (Nat.le_of_ble_eq_true rfl) rfl rfl ?_
                          refine zw_aload_n hC dX10_pays_163 rfl 0 rfl ?_
                          refine zw_getr (k' := 86) hC zF_Model_paid zk_77 rfl dX10_pays_164 kw_6_12 ?_
                          refine zw_iload hC dX10_pays_167 3 rfl ?_
                          refine zw_iald hC hf zk_86 dX10_pays_169 (fun v90 hf => ?_)
                          refine zw_icmp_ne hC 176 hf dX10_pays_170 (by decide) (fun hf => ?_) (fun hf => ?_)
                          · refine zw_aload_n hC dX10_pays_176 rfl 0 rfl ?_
                            refine zw_geti hC zF_Model_rounds zk_77 dX10_pays_177 kw_6_14 ?_
                            have hj245 : ∀ (v91 : Int32), zf_X10_pays_j245 M81 v80 (fun x0 x1 x2 => zf_X10_pays_L122 v78 K275 n122 x0 x1 x2) v79 v91 = some M' → ZW E 245 [(0, .ref (zad E 77)), (2, .int v78), (3, .int v79), (4, .int v80)] [.int v91] M81 := by
                              intro v91 hf
                              unfold zf_X10_pays_j245 at hf
                              refine zw_istore hC (lv' := [(5, .int v91), (0, .ref (zad E 77)), (2, .int v78), (3, .int v79), (4, .int v80)]) dX10_pays_245 hN (by decide) rfl ?_
                              refine zw_aload_n hC dX10_pays_247 rfl 1 rfl ?_
                              refine zw_getr (k' := 87) hC zF_Model_hadIn zk_77 rfl dX10_pays_248 kw_6_13 ?_
                              refine zw_bipush hC (v := (10 : Int32)) dX10_pays_251 (by decide) ?_
                              refine zw_aload_n hC dX10_pays_253 rfl 1 rfl ?_
                              refine zw_geti hC zF_Model_rounds zk_77 dX10_pays_254 kw_6_14 ?_
                              refine zw_imul hC dX10_pays_257 ?_
                              refine zw_iload hC dX10_pays_258 4 rfl ?_
                              refine zw_iadd hC dX10_pays_260 ?_
                              refine zw_iload hC dX10_pays_261 0 rfl ?_
                              refine zw_iast hC hf zk_87 dX10_pays_263 (fun M92 hf => ?_)
                              refine zw_iload_n hC dX10_pays_264 rfl 3 rfl ?_
                              refine zw_iload hC dX10_pays_265 0 rfl ?_
                              refine zw_iadd hC dX10_pays_267 ?_
                              refine zw_istore_n hC (lv' := [(3, .int (v79 + v91)), (5, .int v91), (0, .ref (zad E 77)), (2, .int v78), (4, .int v80)]) dX10_pays_268 rfl hN (by decide) rfl ?_
                              exact zw_sub [2, 3, 0, 4] rfl (hj269 (v79 + v91) M92 hf)
                            refine zw_if_ne hC 221 hf dX10_pays_180 (by decide) (fun hf => ?_) (fun hf => ?_)
                            · refine zw_aload_n hC dX10_pays_221 rfl 0 rfl ?_
                              refine zw_aload_n hC dX10_pays_222 rfl 0 rfl ?_
                              refine zw_iload hC dX10_pays_223 3 rfl ?_
                              obtain ⟨v93, hc93, hf⟩ := zb1_some hf
                              refine zw_cV hC [.int v80] [.ref (zad E 77)] (st1 := [.int v93, .ref (zad E 77)]) zm_X10_claim (zc_X10_claim hc93) zk_77 rfl kw_7_52 dX10_pays_225 rfl (by decide) (Nat.le_of_ble_eq_true rfl) rfl rfl ?_
                              refine zw_aload_n hC dX10_pays_228 rfl 0 rfl ?_
                              refine zw_getr (k' := 86) hC zF_Model_paid zk_77 rfl dX10_pays_229 kw_6_12 ?_
                              refine zw_iload hC dX10_pays_232 3 rfl ?_
                              refine zw_iald hC hf zk_86 dX10_pays_234 (fun v94 hf => ?_)
                              refine zw_isub hC dX10_pays_235 ?_
                              refine zw_aload_n hC dX10_pays_236 rfl 0 rfl ?_
                              refine zw_geti hC zF_Model_left zk_77 dX10_pays_237 kw_6_15 ?_
                              refine zw_i2l hC dX10_pays_240 ?_
                              refine zw_iload_n hC dX10_pays_241 rfl 1 rfl ?_
                              obtain ⟨v95, hc95, hf⟩ := zb1_some hf
                              refine zw_cV hC [.int (v93 - v94), .long ((M81 77 29).toInt64), .int v78] [] (st1 := [.int v95]) zm_X10_sent (zc_X10_sent hc95) zk_77 rfl kw_7_210 dX10_pays_242 rfl (by decide) (Nat.le_of_ble_eq_true rfl) rfl rfl ?_
                              exact hj245 v95 hf
                            · refine zw_aload_n hC dX10_pays_183 rfl 0 rfl ?_
                              refine zw_aload_n hC dX10_pays_184 rfl 0 rfl ?_
                              refine zw_iload hC dX10_pays_185 3 rfl ?_
                              obtain ⟨v96, hc96, hf⟩ := zb1_some hf
                              refine zw_cV hC [.int v80] [.ref (zad E 77)] (st1 := [.int v96, .ref (zad E 77)]) zm_X10_claim (zc_X10_claim hc96) zk_77 rfl kw_7_52 dX10_pays_187 rfl (by decide) (Nat.le_of_ble_eq_true rfl) rfl rfl ?_
                              refine zw_aload_n hC dX10_pays_190 rfl 0 rfl ?_
                              refine zw_getr (k' := 88) hC zF_Model_pots zk_77 rfl dX10_pays_191 kw_6_16 ?_
                              refine zw_aload_n hC dX10_pays_194 rfl 0 rfl ?_
                              refine zw_getr (k' := 85) hC zF_Model_part zk_77 rfl dX10_pays_195 kw_6_5 ?_
                              refine zw_iload hC dX10_pays_198 3 rfl ?_
                              refine zw_iald hC hf zk_85 dX10_pays_200 (fun v97 hf => ?_)
                              refine zw_iald hC hf zk_88 dX10_pays_201 (fun v98 hf => ?_)
                              refine zw_i2l hC dX10_pays_202 ?_
                              refine zw_aload_n hC dX10_pays_203 rfl 0 rfl ?_
                              refine zw_getr (k' := 89) hC zF_Model_potClaims zk_77 rfl dX10_pays_204 kw_6_17 ?_
                              refine zw_aload_n hC dX10_pays_207 rfl 0 rfl ?_
                              refine zw_getr (k' := 85) hC zF_Model_part zk_77 rfl dX10_pays_208 kw_6_5 ?_
                              refine zw_iload hC dX10_pays_211 3 rfl ?_
                              refine zw_iald hC hf zk_85 dX10_pays_213 (fun v99 hf => ?_)
                              refine zw_iald hC hf zk_89 dX10_pays_214 (fun v100 hf => ?_)
                              obtain ⟨v101, hc101, hf⟩ := zb1_some hf
                              refine zw_cV hC [.int v96, .long (v98.toInt64), .int v100] [] (st1 := [.int v101]) zm_X10_sent (zc_X10_sent hc101) zk_77 rfl kw_7_210 dX10_pays_215 rfl (by decide) (Nat.le_of_ble_eq_true rfl) rfl rfl ?_
                              refine zw_goto hC 245 dX10_pays_218 (by decide) ?_
                              exact hj245 v101 hf
                          · refine zw_goto hC 269 dX10_pays_173 (by decide) ?_
                            exact hj269 v79 M81 hf
                refine zw_sub [3, 2, 1, 0] rfl (hL122 _ ?_ n (0 : Int32) (0 : Int32) M76 hf)
                · intro v102 M103 hf
                  refine zw_iconst hC (v := (0 : Int32)) dX10_pays_275 (by decide) ?_
                  refine zw_istore hC (lv' := [(4, .int (0 : Int32)), (0, .ref (zad E 77)), (3, .int v102)]) dX10_pays_276 hN (by decide) rfl ?_
                  have hL278 : ∀ (K320 : ZMem → Option (ZMem)), (∀ (M106 : ZMem), K320 M106 = some M' → ZW E 320 [(0, .ref (zad E 77)), (3, .int v102)] [] M106) → ∀ (n278 : Nat), ∀ (v104 : Int32), ∀ (M105 : ZMem), zf_X10_pays_L278 K320 n278 v104 M105 = some M' → ZW E 278 [(0, .ref (zad E 77)), (3, .int v102), (4, .int v104)] [] M105 := by
                    intro K320 hK320
                    intro n278
                    induction n278 with
                    | zero => intro v104 M105 hf; rw [zf_X10_pays_L278] at hf; cases hf
                    | succ n278 ih278 =>
                      intro v104 M105 hf
                      rw [zf_X10_pays_L278] at hf
                      refine zw_iload hC dX10_pays_278 2 rfl ?_
                      refine zw_aload_n hC dX10_pays_280 rfl 0 rfl ?_
                      refine zw_getr (k' := 78) hC zF_Model_now zk_77 rfl dX10_pays_281 kw_5_227 ?_
                      refine zw_iconst hC (v := (0 : Int32)) dX10_pays_284 (by decide) ?_
                      refine zw_iald hC hf zk_78 dX10_pays_285 (fun v107 hf => ?_)
                      refine zw_icmp_ge hC 320 hf dX10_pays_286 (by decide) (fun hf => ?_) (fun hf => ?_)
                      · exact zw_sub [0, 1] rfl (hK320 M105 hf)
                      · refine zw_aload_n hC dX10_pays_289 rfl 0 rfl ?_
                        refine zw_getr (k' := 86) hC zF_Model_paid zk_77 rfl dX10_pays_290 kw_6_12 ?_
                        refine zw_iload hC dX10_pays_293 2 rfl ?_
                        refine zw_dup2 hC dX10_pays_295 rfl rfl ?_
                        refine zw_iald hC hf zk_86 dX10_pays_296 (fun v108 hf => ?_)
                        refine zw_aload_n hC dX10_pays_297 rfl 0 rfl ?_
                        refine zw_getr (k' := 87) hC zF_Model_hadIn zk_77 rfl dX10_pays_298 kw_6_13 ?_
                        refine zw_bipush hC (v := (10 : Int32)) dX10_pays_301 (by decide) ?_
                        refine zw_aload_n hC dX10_pays_303 rfl 0 rfl ?_
                        refine zw_geti hC zF_Model_rounds zk_77 dX10_pays_304 kw_6_14 ?_
                        refine zw_imul hC dX10_pays_307 ?_
                        refine zw_iload hC dX10_pays_308 2 rfl ?_
                        refine zw_iadd hC dX10_pays_310 ?_
                        refine zw_iald hC hf zk_87 dX10_pays_311 (fun v109 hf => ?_)
                        refine zw_iadd hC dX10_pays_312 ?_
                        refine zw_iast hC hf zk_86 dX10_pays_313 (fun M110 hf => ?_)
                        refine zw_iinc hC (v := (1 : Int32)) (lv' := [(4, .int (v104 + (1 : Int32))), (0, .ref (zad E 77)), (3, .int v102)]) dX10_pays_314 2 rfl (by decide) hN (by decide) rfl ?_
                        refine zw_goto hC 278 dX10_pays_317 (by decide) ?_
                        exact zw_sub [1, 2, 0] rfl (ih278 (v104 + (1 : Int32)) M110 hf)
                  refine zw_sub [1, 2, 0] rfl (hL278 _ ?_ n (0 : Int32) M103 hf)
                  · intro M111 hf
                    refine zw_aload_n hC dX10_pays_320 rfl 0 rfl ?_
                    refine zw_dup hC dX10_pays_321 rfl ?_
                    refine zw_geti hC zF_Model_left zk_77 dX10_pays_322 kw_6_15 ?_
                    refine zw_iload_n hC dX10_pays_325 rfl 1 rfl ?_
                    refine zw_isub hC dX10_pays_326 ?_
                    refine zw_puti hC hf zF_Model_left zk_77 dX10_pays_327 kw_6_15 (fun M112 hf => ?_)
                    refine zw_iload_n hC dX10_pays_330 rfl 1 rfl ?_
                    have hj339 : ∀ (v113 : Int32), zf_X10_pays_j339 M112 (fun x0 x1 => zf_X10_pays_L99 n K361 n99 x0 x1) v113 = some M' → ZW E 339 [(0, .ref (zad E 77))] [.int v113] M112 := by
                      intro v113 hf
                      unfold zf_X10_pays_j339 at hf
                      refine zw_istore_n hC (lv' := [(1, .int v113), (0, .ref (zad E 77))]) dX10_pays_339 rfl hN (by decide) rfl ?_
                      refine zw_aload_n hC dX10_pays_340 rfl 1 rfl ?_
                      refine zw_dup hC dX10_pays_341 rfl ?_
                      refine zw_geti hC zF_Model_rounds zk_77 dX10_pays_342 kw_6_14 ?_
                      refine zw_iload_n hC dX10_pays_345 rfl 0 rfl ?_
                      have hj354 : ∀ (v114 : Int32), zf_X10_pays_j354 M112 (fun x0 x1 => zf_X10_pays_L99 n K361 n99 x0 x1) v113 v114 = some M' → ZW E 354 [(0, .ref (zad E 77)), (1, .int v113)] [.int v114, .int (M112 77 28), .ref (zad E 77)] M112 := by
                        intro v114 hf
                        unfold zf_X10_pays_j354 at hf
                        refine zw_iadd hC dX10_pays_354 ?_
                        refine zw_puti hC hf zF_Model_rounds zk_77 dX10_pays_355 kw_6_14 (fun M115 hf => ?_)
                        refine zw_goto hC 99 dX10_pays_358 (by decide) ?_
                        exact ih99 v113 M115 hf
                      refine zw_if_eq hC 353 hf dX10_pays_346 (by decide) (fun hf => ?_) (fun hf => ?_)
                      · refine zw_iconst hC (v := (0 : Int32)) dX10_pays_353 (by decide) ?_
                        exact zw_sub [1, 0] rfl (hj354 (0 : Int32) hf)
                      · refine zw_iconst hC (v := (1 : Int32)) dX10_pays_349 (by decide) ?_
                        refine zw_goto hC 354 dX10_pays_350 (by decide) ?_
                        exact zw_sub [1, 0] rfl (hj354 (1 : Int32) hf)
                    refine zw_if_le hC 338 hf dX10_pays_331 (by decide) (fun hf => ?_) (fun hf => ?_)
                    · refine zw_iconst hC (v := (0 : Int32)) dX10_pays_338 (by decide) ?_
                      exact zw_sub [0] rfl (hj339 (0 : Int32) hf)
                    · refine zw_iconst hC (v := (1 : Int32)) dX10_pays_334 (by decide) ?_
                      refine zw_goto hC 339 dX10_pays_335 (by decide) ?_
                      exact zw_sub [0] rfl (hj339 (1 : Int32) hf)
        refine zw_sub [1, 0] rfl (hL99 _ ?_ n (1 : Int32) M74 hf)
        · intro M116 hf
          have h1 := Option.some.inj hf
          subst h1
          exact zw_vret hC hR dX10_pays_361
/-! ClassOfManyModel.paysNow()V -/
theorem dX10_paysNow_0 : decode cX10_paysNow 0 = .ok (.aload_n 0, 1) := by decide +kernel
theorem dX10_paysNow_1 : decode cX10_paysNow 1 = .ok (.invokevirtual 281, 3) := by decide +kernel
theorem dX10_paysNow_4 : decode cX10_paysNow 4 = .ok (.aload_n 0, 1) := by decide +kernel
theorem dX10_paysNow_5 : decode cX10_paysNow 5 = .ok (.invokevirtual 284, 3) := by decide +kernel
theorem dX10_paysNow_8 : decode cX10_paysNow 8 = .ok (.return_, 1) := by decide +kernel
theorem zm_X10_paysNow : ZMv "ClassOfManyModel" yX10_paysNow cX10_paysNow 1 (none) 0 := ⟨kw_7_181, kw_7_180, kp_99, kw_1_10, by decide +kernel, by decide⟩
def zf_X10_paysNow (n : Nat) (M : ZMem) : Option (ZMem) :=
  zb1 (zf_X10_setsNow n M) (fun M23 => zb1 (zf_X10_pays n M23) (fun M24 => some M24))
set_option maxHeartbeats 4000000 in
set_option maxRecDepth 100000 in
theorem zc_X10_paysNow {l : Launch} {D : va_G} {ad : Nat → Nat} {cA : Nat → ClassId} {n : Nat} {M : ZMem} {M' : ZMem} (hf : zf_X10_paysNow n M = some M') : ZCt l D ad cA yX10_paysNow cX10_paysNow 1 (none) 7 [.ref (ad 77)] M none M' := by
  refine zct (by decide +kernel) (Nat.le_of_ble_eq_true rfl) (lv := [(0, .ref (ad 77))]) rfl (fun E hl hD had hcA hN hC hR => ?_)
  subst hl; subst hD; subst had; subst hcA
  unfold zf_X10_paysNow at hf
  refine zw_aload_n hC dX10_paysNow_0 rfl 0 rfl ?_
  obtain ⟨M23, hcM23, hf⟩ := zb1_some hf
  refine zw_cV hC [] [] (st1 := []) zm_X10_setsNow (zc_X10_setsNow hcM23) zk_77 rfl kw_7_182 dX10_paysNow_1 rfl (by decide) (Nat.le_of_ble_eq_true rfl) rfl rfl ?_
  refine zw_aload_n hC dX10_paysNow_4 rfl 0 rfl ?_
  obtain ⟨M24, hcM24, hf⟩ := zb1_some hf
  refine zw_cV hC [] [] (st1 := []) zm_X10_pays (zc_X10_pays hcM24) zk_77 rfl kw_7_190 dX10_paysNow_5 rfl (by decide) (Nat.le_of_ble_eq_true rfl) rfl rfl ?_
  have h1 := Option.some.inj hf
  subst h1
  exact zw_vret hC hR dX10_paysNow_8
/-! ClassOfManyModel.paidAll(I)I -/
theorem dX10_paidAll_0 : decode cX10_paidAll 0 = .ok (.iconst 0, 1) := by decide +kernel
theorem dX10_paidAll_1 : decode cX10_paidAll 1 = .ok (.istore_n 2, 1) := by decide +kernel
theorem dX10_paidAll_2 : decode cX10_paidAll 2 = .ok (.iconst 0, 1) := by decide +kernel
theorem dX10_paidAll_3 : decode cX10_paidAll 3 = .ok (.istore_n 3, 1) := by decide +kernel
theorem dX10_paidAll_4 : decode cX10_paidAll 4 = .ok (.iload_n 3, 1) := by decide +kernel
theorem dX10_paidAll_5 : decode cX10_paidAll 5 = .ok (.aload_n 0, 1) := by decide +kernel
theorem dX10_paidAll_6 : decode cX10_paidAll 6 = .ok (.getfield 7, 3) := by decide +kernel
theorem dX10_paidAll_9 : decode cX10_paidAll 9 = .ok (.iconst 0, 1) := by decide +kernel
theorem dX10_paidAll_10 : decode cX10_paidAll 10 = .ok (.iaload, 1) := by decide +kernel
theorem dX10_paidAll_11 : decode cX10_paidAll 11 = .ok (.if_icmp .ge 30, 3) := by decide +kernel
theorem dX10_paidAll_14 : decode cX10_paidAll 14 = .ok (.iload_n 2, 1) := by decide +kernel
theorem dX10_paidAll_15 : decode cX10_paidAll 15 = .ok (.iload_n 1, 1) := by decide +kernel
theorem dX10_paidAll_16 : decode cX10_paidAll 16 = .ok (.iload_n 3, 1) := by decide +kernel
theorem dX10_paidAll_17 : decode cX10_paidAll 17 = .ok (.invokestatic 118, 3) := by decide +kernel
theorem dX10_paidAll_20 : decode cX10_paidAll 20 = .ok (.ifCond .eq 12, 3) := by decide +kernel
theorem dX10_paidAll_23 : decode cX10_paidAll 23 = .ok (.aload_n 0, 1) := by decide +kernel
theorem dX10_paidAll_24 : decode cX10_paidAll 24 = .ok (.getfield 34, 3) := by decide +kernel
theorem dX10_paidAll_27 : decode cX10_paidAll 27 = .ok (.iload_n 3, 1) := by decide +kernel
theorem dX10_paidAll_28 : decode cX10_paidAll 28 = .ok (.iaload, 1) := by decide +kernel
theorem dX10_paidAll_29 : decode cX10_paidAll 29 = .ok (.goto 4, 3) := by decide +kernel
theorem dX10_paidAll_32 : decode cX10_paidAll 32 = .ok (.iconst 0, 1) := by decide +kernel
theorem dX10_paidAll_33 : decode cX10_paidAll 33 = .ok (.iadd, 1) := by decide +kernel
theorem dX10_paidAll_34 : decode cX10_paidAll 34 = .ok (.istore_n 2, 1) := by decide +kernel
theorem dX10_paidAll_35 : decode cX10_paidAll 35 = .ok (.iinc 3 1, 3) := by decide +kernel
theorem dX10_paidAll_38 : decode cX10_paidAll 38 = .ok (.goto (-34), 3) := by decide +kernel
theorem dX10_paidAll_41 : decode cX10_paidAll 41 = .ok (.iload_n 2, 1) := by decide +kernel
theorem dX10_paidAll_42 : decode cX10_paidAll 42 = .ok (.ireturn, 1) := by decide +kernel
theorem zm_X10_paidAll : ZMv "ClassOfManyModel" yX10_paidAll cX10_paidAll 4 (some .int) 1 := ⟨kw_7_217, kw_7_216, kp_108, kw_1_10, by decide +kernel, by decide⟩
def zf_X10_paidAll_j33 (R4 : Int32 → Int32 → Option (Int32)) (v24 : Int32) (v25 : Int32) (v29 : Int32) : Option (Int32) :=
  (R4 (v24 + v29) (v25 + (1 : Int32)))
def zf_X10_paidAll_L4 (M : ZMem) (a1 : Int32) (K41 : Int32 → Option (Int32)) : Nat → Int32 → Int32 → Option (Int32)
  | 0, _, _ => none
  | n4 + 1, v24, v25 =>
  zrd M 78 73 (0 : Int32) (fun v27 => (if v27 ≤ v25 then (K41 v24) else zb1 (zf_X10_has a1 v25) (fun v28 => (if v28 = 0 then (zf_X10_paidAll_j33 (fun x0 x1 => zf_X10_paidAll_L4 M a1 K41 n4 x0 x1) v24 v25 (0 : Int32)) else zrd M 86 10 v25 (fun v30 => (zf_X10_paidAll_j33 (fun x0 x1 => zf_X10_paidAll_L4 M a1 K41 n4 x0 x1) v24 v25 v30))))))
def zf_X10_paidAll (n : Nat) (a1 : Int32) (M : ZMem) : Option (Int32) :=
  (zf_X10_paidAll_L4 M a1 (fun v31 => some v31) n (0 : Int32) (0 : Int32))
set_option maxHeartbeats 4000000 in
set_option maxRecDepth 100000 in
theorem zc_X10_paidAll {l : Launch} {D : va_G} {ad : Nat → Nat} {cA : Nat → ClassId} {n : Nat} {a1 : Int32} {M : ZMem} {r : Int32} (hf : zf_X10_paidAll n a1 M = some r) : ZCt l D ad cA yX10_paidAll cX10_paidAll 4 (some .int) 2 [.ref (ad 77), .int a1] M (some (.int r)) M := by
  refine zct (by decide +kernel) (Nat.le_of_ble_eq_true rfl) (lv := [(0, .ref (ad 77)), (1, .int a1)]) rfl (fun E hl hD had hcA hN hC hR => ?_)
  subst hl; subst hD; subst had; subst hcA
  unfold zf_X10_paidAll at hf
  refine zw_iconst hC (v := (0 : Int32)) dX10_paidAll_0 (by decide) ?_
  refine zw_istore_n hC (lv' := [(2, .int (0 : Int32)), (0, .ref (zad E 77)), (1, .int a1)]) dX10_paidAll_1 rfl hN (by decide) rfl ?_
  refine zw_iconst hC (v := (0 : Int32)) dX10_paidAll_2 (by decide) ?_
  refine zw_istore_n hC (lv' := [(3, .int (0 : Int32)), (2, .int (0 : Int32)), (0, .ref (zad E 77)), (1, .int a1)]) dX10_paidAll_3 rfl hN (by decide) rfl ?_
  have hL4 : ∀ (K41 : Int32 → Option (Int32)), (∀ (v26 : Int32), K41 v26 = some r → ZW E 41 [(2, .int v26)] [] M) → ∀ (n4 : Nat), ∀ (v24 : Int32), ∀ (v25 : Int32), zf_X10_paidAll_L4 M a1 K41 n4 v24 v25 = some r → ZW E 4 [(0, .ref (zad E 77)), (1, .int a1), (2, .int v24), (3, .int v25)] [] M := by
    intro K41 hK41
    intro n4
    induction n4 with
    | zero => intro v24 v25 hf; rw [zf_X10_paidAll_L4] at hf; cases hf
    | succ n4 ih4 =>
      intro v24 v25 hf
      rw [zf_X10_paidAll_L4] at hf
      refine zw_iload_n hC dX10_paidAll_4 rfl 3 rfl ?_
      refine zw_aload_n hC dX10_paidAll_5 rfl 0 rfl ?_
      refine zw_getr (k' := 78) hC zF_Model_now zk_77 rfl dX10_paidAll_6 kw_5_227 ?_
      refine zw_iconst hC (v := (0 : Int32)) dX10_paidAll_9 (by decide) ?_
      refine zw_iald hC hf zk_78 dX10_paidAll_10 (fun v27 hf => ?_)
      refine zw_icmp_ge hC 41 hf dX10_paidAll_11 (by decide) (fun hf => ?_) (fun hf => ?_)
      · exact zw_sub [2] rfl (hK41 v24 hf)
      · refine zw_iload_n hC dX10_paidAll_14 rfl 2 rfl ?_
        refine zw_iload_n hC dX10_paidAll_15 rfl 1 rfl ?_
        refine zw_iload_n hC dX10_paidAll_16 rfl 3 rfl ?_
        obtain ⟨v28, hc28, hf⟩ := zb1_some hf
        refine zw_cS hC [.int a1, .int v25] [.int v24] (st1 := [.int v28, .int v24]) zm_X10_has (zc_X10_has hc28) kw_6_150 dX10_paidAll_17 rfl (by decide) (Nat.le_of_ble_eq_true rfl) rfl rfl ?_
        have hj33 : ∀ (v29 : Int32), zf_X10_paidAll_j33 (fun x0 x1 => zf_X10_paidAll_L4 M a1 K41 n4 x0 x1) v24 v25 v29 = some r → ZW E 33 [(0, .ref (zad E 77)), (1, .int a1), (3, .int v25)] [.int v29, .int v24] M := by
          intro v29 hf
          unfold zf_X10_paidAll_j33 at hf
          refine zw_iadd hC dX10_paidAll_33 ?_
          refine zw_istore_n hC (lv' := [(2, .int (v24 + v29)), (0, .ref (zad E 77)), (1, .int a1), (3, .int v25)]) dX10_paidAll_34 rfl hN (by decide) rfl ?_
          refine zw_iinc hC (v := (1 : Int32)) (lv' := [(3, .int (v25 + (1 : Int32))), (2, .int (v24 + v29)), (0, .ref (zad E 77)), (1, .int a1)]) dX10_paidAll_35 3 rfl (by decide) hN (by decide) rfl ?_
          refine zw_goto hC 4 dX10_paidAll_38 (by decide) ?_
          exact zw_sub [2, 3, 1, 0] rfl (ih4 (v24 + v29) (v25 + (1 : Int32)) hf)
        refine zw_if_eq hC 32 hf dX10_paidAll_20 (by decide) (fun hf => ?_) (fun hf => ?_)
        · refine zw_iconst hC (v := (0 : Int32)) dX10_paidAll_32 (by decide) ?_
          exact zw_sub [0, 1, 3] rfl (hj33 (0 : Int32) hf)
        · refine zw_aload_n hC dX10_paidAll_23 rfl 0 rfl ?_
          refine zw_getr (k' := 86) hC zF_Model_paid zk_77 rfl dX10_paidAll_24 kw_6_12 ?_
          refine zw_iload_n hC dX10_paidAll_27 rfl 3 rfl ?_
          refine zw_iald hC hf zk_86 dX10_paidAll_28 (fun v30 hf => ?_)
          refine zw_goto hC 33 dX10_paidAll_29 (by decide) ?_
          exact zw_sub [0, 1, 3] rfl (hj33 v30 hf)
  refine zw_sub [2, 3, 1, 0] rfl (hL4 _ ?_ n (0 : Int32) (0 : Int32) hf)
  · intro v31 hf
    refine zw_iload_n hC dX10_paidAll_41 rfl 0 rfl ?_
    have h1 := Option.some.inj hf
    subst h1
    exact zw_iret hC hR dX10_paidAll_42
/-! ClassOfManyModel.paysWithout(I)V -/
theorem dX10_paysWithout_0 : decode cX10_paysWithout 0 = .ok (.aload_n 0, 1) := by decide +kernel
theorem dX10_paysWithout_1 : decode cX10_paysWithout 1 = .ok (.invokevirtual 281, 3) := by decide +kernel
theorem dX10_paysWithout_4 : decode cX10_paysWithout 4 = .ok (.aload_n 0, 1) := by decide +kernel
theorem dX10_paysWithout_5 : decode cX10_paysWithout 5 = .ok (.dup, 1) := by decide +kernel
theorem dX10_paysWithout_6 : decode cX10_paysWithout 6 = .ok (.getfield 229, 3) := by decide +kernel
theorem dX10_paysWithout_9 : decode cX10_paysWithout 9 = .ok (.iload_n 1, 1) := by decide +kernel
theorem dX10_paysWithout_10 : decode cX10_paysWithout 10 = .ok (.iconst (-1), 1) := by decide +kernel
theorem dX10_paysWithout_11 : decode cX10_paysWithout 11 = .ok (.ixor, 1) := by decide +kernel
theorem dX10_paysWithout_12 : decode cX10_paysWithout 12 = .ok (.iand, 1) := by decide +kernel
theorem dX10_paysWithout_13 : decode cX10_paysWithout 13 = .ok (.putfield 229, 3) := by decide +kernel
theorem dX10_paysWithout_16 : decode cX10_paysWithout 16 = .ok (.aload_n 0, 1) := by decide +kernel
theorem dX10_paysWithout_17 : decode cX10_paysWithout 17 = .ok (.dup, 1) := by decide +kernel
theorem dX10_paysWithout_18 : decode cX10_paysWithout 18 = .ok (.getfield 235, 3) := by decide +kernel
theorem dX10_paysWithout_21 : decode cX10_paysWithout 21 = .ok (.iload_n 1, 1) := by decide +kernel
theorem dX10_paysWithout_22 : decode cX10_paysWithout 22 = .ok (.iconst (-1), 1) := by decide +kernel
theorem dX10_paysWithout_23 : decode cX10_paysWithout 23 = .ok (.ixor, 1) := by decide +kernel
theorem dX10_paysWithout_24 : decode cX10_paysWithout 24 = .ok (.iand, 1) := by decide +kernel
theorem dX10_paysWithout_25 : decode cX10_paysWithout 25 = .ok (.putfield 235, 3) := by decide +kernel
theorem dX10_paysWithout_28 : decode cX10_paysWithout 28 = .ok (.aload_n 0, 1) := by decide +kernel
theorem dX10_paysWithout_29 : decode cX10_paysWithout 29 = .ok (.aload_n 0, 1) := by decide +kernel
theorem dX10_paysWithout_30 : decode cX10_paysWithout 30 = .ok (.getfield 229, 3) := by decide +kernel
theorem dX10_paysWithout_33 : decode cX10_paysWithout 33 = .ok (.invokevirtual 247, 3) := by decide +kernel
theorem dX10_paysWithout_36 : decode cX10_paysWithout 36 = .ok (.aload_n 0, 1) := by decide +kernel
theorem dX10_paysWithout_37 : decode cX10_paysWithout 37 = .ok (.invokevirtual 284, 3) := by decide +kernel
theorem dX10_paysWithout_40 : decode cX10_paysWithout 40 = .ok (.return_, 1) := by decide +kernel
theorem zm_X10_paysWithout : ZMv "ClassOfManyModel" yX10_paysWithout cX10_paysWithout 2 (none) 1 := ⟨kw_8_6, kw_8_5, kp_109, kw_1_10, by decide +kernel, by decide⟩
def zf_X10_paysWithout (n : Nat) (a1 : Int32) (M : ZMem) : Option (ZMem) :=
  zb1 (zf_X10_setsNow n M) (fun M26 => zput M26 77 21 ((M26 77 21) &&& (a1 ^^^ (-1 : Int32))) (fun M27 => zput M27 77 22 ((M27 77 22) &&& (a1 ^^^ (-1 : Int32))) (fun M28 => zb1 (zf_X10_divides n (M28 77 21) M28) (fun M29 => zb1 (zf_X10_pays n M29) (fun M30 => some M30)))))
set_option maxHeartbeats 4000000 in
set_option maxRecDepth 100000 in
theorem zc_X10_paysWithout {l : Launch} {D : va_G} {ad : Nat → Nat} {cA : Nat → ClassId} {n : Nat} {a1 : Int32} {M : ZMem} {M' : ZMem} (hf : zf_X10_paysWithout n a1 M = some M') : ZCt l D ad cA yX10_paysWithout cX10_paysWithout 2 (none) 7 [.ref (ad 77), .int a1] M none M' := by
  refine zct (by decide +kernel) (Nat.le_of_ble_eq_true rfl) (lv := [(0, .ref (ad 77)), (1, .int a1)]) rfl (fun E hl hD had hcA hN hC hR => ?_)
  subst hl; subst hD; subst had; subst hcA
  unfold zf_X10_paysWithout at hf
  refine zw_aload_n hC dX10_paysWithout_0 rfl 0 rfl ?_
  obtain ⟨M26, hcM26, hf⟩ := zb1_some hf
  refine zw_cV hC [] [] (st1 := []) zm_X10_setsNow (zc_X10_setsNow hcM26) zk_77 rfl kw_7_182 dX10_paysWithout_1 rfl (by decide) (Nat.le_of_ble_eq_true rfl) rfl rfl ?_
  refine zw_aload_n hC dX10_paysWithout_4 rfl 0 rfl ?_
  refine zw_dup hC dX10_paysWithout_5 rfl ?_
  refine zw_geti hC zF_Model_nowIn zk_77 dX10_paysWithout_6 kw_6_7 ?_
  refine zw_iload_n hC dX10_paysWithout_9 rfl 1 rfl ?_
  refine zw_iconst hC (v := (-1 : Int32)) dX10_paysWithout_10 (by decide) ?_
  refine zw_ixor hC dX10_paysWithout_11 ?_
  refine zw_iand hC dX10_paysWithout_12 ?_
  refine zw_puti hC hf zF_Model_nowIn zk_77 dX10_paysWithout_13 kw_6_7 (fun M27 hf => ?_)
  refine zw_aload_n hC dX10_paysWithout_16 rfl 0 rfl ?_
  refine zw_dup hC dX10_paysWithout_17 rfl ?_
  refine zw_geti hC zF_Model_nowCounted zk_77 dX10_paysWithout_18 kw_6_8 ?_
  refine zw_iload_n hC dX10_paysWithout_21 rfl 1 rfl ?_
  refine zw_iconst hC (v := (-1 : Int32)) dX10_paysWithout_22 (by decide) ?_
  refine zw_ixor hC dX10_paysWithout_23 ?_
  refine zw_iand hC dX10_paysWithout_24 ?_
  refine zw_puti hC hf zF_Model_nowCounted zk_77 dX10_paysWithout_25 kw_6_8 (fun M28 hf => ?_)
  refine zw_aload_n hC dX10_paysWithout_28 rfl 0 rfl ?_
  refine zw_aload_n hC dX10_paysWithout_29 rfl 0 rfl ?_
  refine zw_geti hC zF_Model_nowIn zk_77 dX10_paysWithout_30 kw_6_7 ?_
  obtain ⟨M29, hcM29, hf⟩ := zb1_some hf
  refine zw_cV hC [.int (M28 77 21)] [] (st1 := []) zm_X10_divides (zc_X10_divides hcM29) zk_77 rfl kw_7_107 dX10_paysWithout_33 rfl (by decide) (Nat.le_of_ble_eq_true rfl) rfl rfl ?_
  refine zw_aload_n hC dX10_paysWithout_36 rfl 0 rfl ?_
  obtain ⟨M30, hcM30, hf⟩ := zb1_some hf
  refine zw_cV hC [] [] (st1 := []) zm_X10_pays (zc_X10_pays hcM30) zk_77 rfl kw_7_190 dX10_paysWithout_37 rfl (by decide) (Nat.le_of_ble_eq_true rfl) rfl rfl ?_
  have h1 := Option.some.inj hf
  subst h1
  exact zw_vret hC hR dX10_paysWithout_40
/-! ClassOfManyModel.remembers()V -/
theorem dX10_remembers_0 : decode cX10_remembers 0 = .ok (.aload_n 0, 1) := by decide +kernel
theorem dX10_remembers_1 : decode cX10_remembers 1 = .ok (.getfield 188, 3) := by decide +kernel
theorem dX10_remembers_4 : decode cX10_remembers 4 = .ok (.bipush 12, 2) := by decide +kernel
theorem dX10_remembers_6 : decode cX10_remembers 6 = .ok (.if_icmp .ne 43, 3) := by decide +kernel
theorem dX10_remembers_9 : decode cX10_remembers 9 = .ok (.iconst 0, 1) := by decide +kernel
theorem dX10_remembers_10 : decode cX10_remembers 10 = .ok (.istore_n 1, 1) := by decide +kernel
theorem dX10_remembers_11 : decode cX10_remembers 11 = .ok (.iload_n 1, 1) := by decide +kernel
theorem dX10_remembers_12 : decode cX10_remembers 12 = .ok (.sipush 803, 3) := by decide +kernel
theorem dX10_remembers_15 : decode cX10_remembers 15 = .ok (.if_icmp .ge 24, 3) := by decide +kernel
theorem dX10_remembers_18 : decode cX10_remembers 18 = .ok (.aload_n 0, 1) := by decide +kernel
theorem dX10_remembers_19 : decode cX10_remembers 19 = .ok (.getfield 16, 3) := by decide +kernel
theorem dX10_remembers_22 : decode cX10_remembers 22 = .ok (.iload_n 1, 1) := by decide +kernel
theorem dX10_remembers_23 : decode cX10_remembers 23 = .ok (.aload_n 0, 1) := by decide +kernel
theorem dX10_remembers_24 : decode cX10_remembers 24 = .ok (.getfield 16, 3) := by decide +kernel
theorem dX10_remembers_27 : decode cX10_remembers 27 = .ok (.iload_n 1, 1) := by decide +kernel
theorem dX10_remembers_28 : decode cX10_remembers 28 = .ok (.bipush 73, 2) := by decide +kernel
theorem dX10_remembers_30 : decode cX10_remembers 30 = .ok (.iadd, 1) := by decide +kernel
theorem dX10_remembers_31 : decode cX10_remembers 31 = .ok (.iaload, 1) := by decide +kernel
theorem dX10_remembers_32 : decode cX10_remembers 32 = .ok (.iastore, 1) := by decide +kernel
theorem dX10_remembers_33 : decode cX10_remembers 33 = .ok (.iinc 1 1, 3) := by decide +kernel
theorem dX10_remembers_36 : decode cX10_remembers 36 = .ok (.goto (-25), 3) := by decide +kernel
theorem dX10_remembers_39 : decode cX10_remembers 39 = .ok (.aload_n 0, 1) := by decide +kernel
theorem dX10_remembers_40 : decode cX10_remembers 40 = .ok (.dup, 1) := by decide +kernel
theorem dX10_remembers_41 : decode cX10_remembers 41 = .ok (.getfield 188, 3) := by decide +kernel
theorem dX10_remembers_44 : decode cX10_remembers 44 = .ok (.iconst 1, 1) := by decide +kernel
theorem dX10_remembers_45 : decode cX10_remembers 45 = .ok (.isub, 1) := by decide +kernel
theorem dX10_remembers_46 : decode cX10_remembers 46 = .ok (.putfield 188, 3) := by decide +kernel
theorem dX10_remembers_49 : decode cX10_remembers 49 = .ok (.iconst 0, 1) := by decide +kernel
theorem dX10_remembers_50 : decode cX10_remembers 50 = .ok (.istore_n 1, 1) := by decide +kernel
theorem dX10_remembers_51 : decode cX10_remembers 51 = .ok (.iload_n 1, 1) := by decide +kernel
theorem dX10_remembers_52 : decode cX10_remembers 52 = .ok (.bipush 73, 2) := by decide +kernel
theorem dX10_remembers_54 : decode cX10_remembers 54 = .ok (.if_icmp .ge 29, 3) := by decide +kernel
theorem dX10_remembers_57 : decode cX10_remembers 57 = .ok (.aload_n 0, 1) := by decide +kernel
theorem dX10_remembers_58 : decode cX10_remembers 58 = .ok (.getfield 16, 3) := by decide +kernel
theorem dX10_remembers_61 : decode cX10_remembers 61 = .ok (.bipush 73, 2) := by decide +kernel
theorem dX10_remembers_63 : decode cX10_remembers 63 = .ok (.aload_n 0, 1) := by decide +kernel
theorem dX10_remembers_64 : decode cX10_remembers 64 = .ok (.getfield 188, 3) := by decide +kernel
theorem dX10_remembers_67 : decode cX10_remembers 67 = .ok (.imul, 1) := by decide +kernel
theorem dX10_remembers_68 : decode cX10_remembers 68 = .ok (.iload_n 1, 1) := by decide +kernel
theorem dX10_remembers_69 : decode cX10_remembers 69 = .ok (.iadd, 1) := by decide +kernel
theorem dX10_remembers_70 : decode cX10_remembers 70 = .ok (.aload_n 0, 1) := by decide +kernel
theorem dX10_remembers_71 : decode cX10_remembers 71 = .ok (.getfield 7, 3) := by decide +kernel
theorem dX10_remembers_74 : decode cX10_remembers 74 = .ok (.iload_n 1, 1) := by decide +kernel
theorem dX10_remembers_75 : decode cX10_remembers 75 = .ok (.iaload, 1) := by decide +kernel
theorem dX10_remembers_76 : decode cX10_remembers 76 = .ok (.iastore, 1) := by decide +kernel
theorem dX10_remembers_77 : decode cX10_remembers 77 = .ok (.iinc 1 1, 3) := by decide +kernel
theorem dX10_remembers_80 : decode cX10_remembers 80 = .ok (.goto (-29), 3) := by decide +kernel
theorem dX10_remembers_83 : decode cX10_remembers 83 = .ok (.aload_n 0, 1) := by decide +kernel
theorem dX10_remembers_84 : decode cX10_remembers 84 = .ok (.dup, 1) := by decide +kernel
theorem dX10_remembers_85 : decode cX10_remembers 85 = .ok (.getfield 188, 3) := by decide +kernel
theorem dX10_remembers_88 : decode cX10_remembers 88 = .ok (.iconst 1, 1) := by decide +kernel
theorem dX10_remembers_89 : decode cX10_remembers 89 = .ok (.iadd, 1) := by decide +kernel
theorem dX10_remembers_90 : decode cX10_remembers 90 = .ok (.putfield 188, 3) := by decide +kernel
theorem dX10_remembers_93 : decode cX10_remembers 93 = .ok (.return_, 1) := by decide +kernel
theorem zm_X10_remembers : ZMv "ClassOfManyModel" yX10_remembers cX10_remembers 2 (none) 0 := ⟨kw_6_212, kw_6_211, kp_77, kw_1_10, by decide +kernel, by decide⟩
def zf_X10_remembers_L51 (K83 : ZMem → Option (ZMem)) : Nat → Int32 → ZMem → Option (ZMem)
  | 0, _, _ => none
  | n51 + 1, v28, M29 =>
  (if (73 : Int32) ≤ v28 then (K83 M29) else zrd M29 78 73 v28 (fun v31 => zst M29 80 876 (((73 : Int32) * (M29 77 4)) + v28) v31 (fun M32 => (zf_X10_remembers_L51 K83 n51 (v28 + (1 : Int32)) M32))))
def zf_X10_remembers_j49 (n : Nat) (M27 : ZMem) : Option (ZMem) :=
  (zf_X10_remembers_L51 (fun M33 => zput M33 77 4 ((M33 77 4) + (1 : Int32)) (fun M34 => some M34)) n (0 : Int32) M27)
def zf_X10_remembers_L11 (K39 : ZMem → Option (ZMem)) : Nat → Int32 → ZMem → Option (ZMem)
  | 0, _, _ => none
  | n11 + 1, v35, M36 =>
  (if (803 : Int32) ≤ v35 then (K39 M36) else zrd M36 80 876 (v35 + (73 : Int32)) (fun v38 => zst M36 80 876 v35 v38 (fun M39 => (zf_X10_remembers_L11 K39 n11 (v35 + (1 : Int32)) M39))))
def zf_X10_remembers (n : Nat) (M : ZMem) : Option (ZMem) :=
  (if (M 77 4) = (12 : Int32) then (zf_X10_remembers_L11 (fun M40 => zput M40 77 4 ((M40 77 4) - (1 : Int32)) (fun M41 => (zf_X10_remembers_j49 n M41))) n (0 : Int32) M) else (zf_X10_remembers_j49 n M))
set_option maxHeartbeats 4000000 in
set_option maxRecDepth 100000 in
theorem zc_X10_remembers {l : Launch} {D : va_G} {ad : Nat → Nat} {cA : Nat → ClassId} {n : Nat} {M : ZMem} {M' : ZMem} (hf : zf_X10_remembers n M = some M') : ZCt l D ad cA yX10_remembers cX10_remembers 2 (none) 1 [.ref (ad 77)] M none M' := by
  refine zct (by decide +kernel) (Nat.le_of_ble_eq_true rfl) (lv := [(0, .ref (ad 77))]) rfl (fun E hl hD had hcA hN hC hR => ?_)
  subst hl; subst hD; subst had; subst hcA
  unfold zf_X10_remembers at hf
  refine zw_aload_n hC dX10_remembers_0 rfl 0 rfl ?_
  refine zw_geti hC zF_Model_undoMany zk_77 dX10_remembers_1 kw_5_230 ?_
  refine zw_bipush hC (v := (12 : Int32)) dX10_remembers_4 (by decide) ?_
  have hj49 : ∀ (M27 : ZMem), zf_X10_remembers_j49 n M27 = some M' → ZW E 49 [(0, .ref (zad E 77))] [] M27 := by
    intro M27 hf
    unfold zf_X10_remembers_j49 at hf
    refine zw_iconst hC (v := (0 : Int32)) dX10_remembers_49 (by decide) ?_
    refine zw_istore_n hC (lv' := [(1, .int (0 : Int32)), (0, .ref (zad E 77))]) dX10_remembers_50 rfl hN (by decide) rfl ?_
    have hL51 : ∀ (K83 : ZMem → Option (ZMem)), (∀ (M30 : ZMem), K83 M30 = some M' → ZW E 83 [(0, .ref (zad E 77))] [] M30) → ∀ (n51 : Nat), ∀ (v28 : Int32), ∀ (M29 : ZMem), zf_X10_remembers_L51 K83 n51 v28 M29 = some M' → ZW E 51 [(0, .ref (zad E 77)), (1, .int v28)] [] M29 := by
      intro K83 hK83
      intro n51
      induction n51 with
      | zero => intro v28 M29 hf; rw [zf_X10_remembers_L51] at hf; cases hf
      | succ n51 ih51 =>
        intro v28 M29 hf
        rw [zf_X10_remembers_L51] at hf
        refine zw_iload_n hC dX10_remembers_51 rfl 1 rfl ?_
        refine zw_bipush hC (v := (73 : Int32)) dX10_remembers_52 (by decide) ?_
        refine zw_icmp_ge hC 83 hf dX10_remembers_54 (by decide) (fun hf => ?_) (fun hf => ?_)
        · exact zw_sub [0] rfl (hK83 M29 hf)
        · refine zw_aload_n hC dX10_remembers_57 rfl 0 rfl ?_
          refine zw_getr (k' := 80) hC zF_Model_undos zk_77 rfl dX10_remembers_58 kw_5_229 ?_
          refine zw_bipush hC (v := (73 : Int32)) dX10_remembers_61 (by decide) ?_
          refine zw_aload_n hC dX10_remembers_63 rfl 0 rfl ?_
          refine zw_geti hC zF_Model_undoMany zk_77 dX10_remembers_64 kw_5_230 ?_
          refine zw_imul hC dX10_remembers_67 ?_
          refine zw_iload_n hC dX10_remembers_68 rfl 1 rfl ?_
          refine zw_iadd hC dX10_remembers_69 ?_
          refine zw_aload_n hC dX10_remembers_70 rfl 0 rfl ?_
          refine zw_getr (k' := 78) hC zF_Model_now zk_77 rfl dX10_remembers_71 kw_5_227 ?_
          refine zw_iload_n hC dX10_remembers_74 rfl 1 rfl ?_
          refine zw_iald hC hf zk_78 dX10_remembers_75 (fun v31 hf => ?_)
          refine zw_iast hC hf zk_80 dX10_remembers_76 (fun M32 hf => ?_)
          refine zw_iinc hC (v := (1 : Int32)) (lv' := [(1, .int (v28 + (1 : Int32))), (0, .ref (zad E 77))]) dX10_remembers_77 1 rfl (by decide) hN (by decide) rfl ?_
          refine zw_goto hC 51 dX10_remembers_80 (by decide) ?_
          exact zw_sub [1, 0] rfl (ih51 (v28 + (1 : Int32)) M32 hf)
    refine zw_sub [1, 0] rfl (hL51 _ ?_ n (0 : Int32) M27 hf)
    · intro M33 hf
      refine zw_aload_n hC dX10_remembers_83 rfl 0 rfl ?_
      refine zw_dup hC dX10_remembers_84 rfl ?_
      refine zw_geti hC zF_Model_undoMany zk_77 dX10_remembers_85 kw_5_230 ?_
      refine zw_iconst hC (v := (1 : Int32)) dX10_remembers_88 (by decide) ?_
      refine zw_iadd hC dX10_remembers_89 ?_
      refine zw_puti hC hf zF_Model_undoMany zk_77 dX10_remembers_90 kw_5_230 (fun M34 hf => ?_)
      have h1 := Option.some.inj hf
      subst h1
      exact zw_vret hC hR dX10_remembers_93
  refine zw_icmp_ne hC 49 hf dX10_remembers_6 (by decide) (fun hf => ?_) (fun hf => ?_)
  · exact hj49 M hf
  · refine zw_iconst hC (v := (0 : Int32)) dX10_remembers_9 (by decide) ?_
    refine zw_istore_n hC (lv' := [(1, .int (0 : Int32)), (0, .ref (zad E 77))]) dX10_remembers_10 rfl hN (by decide) rfl ?_
    have hL11 : ∀ (K39 : ZMem → Option (ZMem)), (∀ (M37 : ZMem), K39 M37 = some M' → ZW E 39 [(0, .ref (zad E 77))] [] M37) → ∀ (n11 : Nat), ∀ (v35 : Int32), ∀ (M36 : ZMem), zf_X10_remembers_L11 K39 n11 v35 M36 = some M' → ZW E 11 [(0, .ref (zad E 77)), (1, .int v35)] [] M36 := by
      intro K39 hK39
      intro n11
      induction n11 with
      | zero => intro v35 M36 hf; rw [zf_X10_remembers_L11] at hf; cases hf
      | succ n11 ih11 =>
        intro v35 M36 hf
        rw [zf_X10_remembers_L11] at hf
        refine zw_iload_n hC dX10_remembers_11 rfl 1 rfl ?_
        refine zw_sipush hC (v := (803 : Int32)) dX10_remembers_12 (by decide) ?_
        refine zw_icmp_ge hC 39 hf dX10_remembers_15 (by decide) (fun hf => ?_) (fun hf => ?_)
        · exact zw_sub [0] rfl (hK39 M36 hf)
        · refine zw_aload_n hC dX10_remembers_18 rfl 0 rfl ?_
          refine zw_getr (k' := 80) hC zF_Model_undos zk_77 rfl dX10_remembers_19 kw_5_229 ?_
          refine zw_iload_n hC dX10_remembers_22 rfl 1 rfl ?_
          refine zw_aload_n hC dX10_remembers_23 rfl 0 rfl ?_
          refine zw_getr (k' := 80) hC zF_Model_undos zk_77 rfl dX10_remembers_24 kw_5_229 ?_
          refine zw_iload_n hC dX10_remembers_27 rfl 1 rfl ?_
          refine zw_bipush hC (v := (73 : Int32)) dX10_remembers_28 (by decide) ?_
          refine zw_iadd hC dX10_remembers_30 ?_
          refine zw_iald hC hf zk_80 dX10_remembers_31 (fun v38 hf => ?_)
          refine zw_iast hC hf zk_80 dX10_remembers_32 (fun M39 hf => ?_)
          refine zw_iinc hC (v := (1 : Int32)) (lv' := [(1, .int (v35 + (1 : Int32))), (0, .ref (zad E 77))]) dX10_remembers_33 1 rfl (by decide) hN (by decide) rfl ?_
          refine zw_goto hC 11 dX10_remembers_36 (by decide) ?_
          exact zw_sub [1, 0] rfl (ih11 (v35 + (1 : Int32)) M39 hf)
    refine zw_sub [1, 0] rfl (hL11 _ ?_ n (0 : Int32) M hf)
    · intro M40 hf
      refine zw_aload_n hC dX10_remembers_39 rfl 0 rfl ?_
      refine zw_dup hC dX10_remembers_40 rfl ?_
      refine zw_geti hC zF_Model_undoMany zk_77 dX10_remembers_41 kw_5_230 ?_
      refine zw_iconst hC (v := (1 : Int32)) dX10_remembers_44 (by decide) ?_
      refine zw_isub hC dX10_remembers_45 ?_
      refine zw_puti hC hf zF_Model_undoMany zk_77 dX10_remembers_46 kw_5_230 (fun M41 hf => ?_)
      exact hj49 M41 hf
/-! ClassOfManyModel.put(II)I -/
theorem dX10_put_0 : decode cX10_put 0 = .ok (.aload_n 0, 1) := by decide +kernel
theorem dX10_put_1 : decode cX10_put 1 = .ok (.getfield 7, 3) := by decide +kernel
theorem dX10_put_4 : decode cX10_put 4 = .ok (.iload_n 1, 1) := by decide +kernel
theorem dX10_put_5 : decode cX10_put 5 = .ok (.iaload, 1) := by decide +kernel
theorem dX10_put_6 : decode cX10_put 6 = .ok (.istore_n 3, 1) := by decide +kernel
theorem dX10_put_7 : decode cX10_put 7 = .ok (.aload_n 0, 1) := by decide +kernel
theorem dX10_put_8 : decode cX10_put 8 = .ok (.invokevirtual 287, 3) := by decide +kernel
theorem dX10_put_11 : decode cX10_put 11 = .ok (.aload_n 0, 1) := by decide +kernel
theorem dX10_put_12 : decode cX10_put 12 = .ok (.getfield 7, 3) := by decide +kernel
theorem dX10_put_15 : decode cX10_put 15 = .ok (.iload_n 1, 1) := by decide +kernel
theorem dX10_put_16 : decode cX10_put 16 = .ok (.iload_n 2, 1) := by decide +kernel
theorem dX10_put_17 : decode cX10_put 17 = .ok (.iastore, 1) := by decide +kernel
theorem dX10_put_18 : decode cX10_put 18 = .ok (.iload_n 3, 1) := by decide +kernel
theorem dX10_put_19 : decode cX10_put 19 = .ok (.ireturn, 1) := by decide +kernel
theorem zm_X10_put : ZMv "ClassOfManyModel" yX10_put cX10_put 4 (some .int) 2 := ⟨kw_6_208, kw_6_207, kp_76, kw_1_10, by decide +kernel, by decide⟩
def zf_X10_put (n : Nat) (a1 : Int32) (a2 : Int32) (M : ZMem) : Option (Int32 × ZMem) :=
  zrd M 78 73 a1 (fun v24 => zb1 (zf_X10_remembers n M) (fun M25 => zst M25 78 73 a1 a2 (fun M26 => some (v24, M26))))
set_option maxHeartbeats 4000000 in
set_option maxRecDepth 100000 in
theorem zc_X10_put {l : Launch} {D : va_G} {ad : Nat → Nat} {cA : Nat → ClassId} {n : Nat} {a1 : Int32} {a2 : Int32} {M : ZMem} {r : Int32} {M' : ZMem} (hf : zf_X10_put n a1 a2 M = some (r, M')) : ZCt l D ad cA yX10_put cX10_put 4 (some .int) 2 [.ref (ad 77), .int a1, .int a2] M (some (.int r)) M' := by
  refine zct (by decide +kernel) (Nat.le_of_ble_eq_true rfl) (lv := [(0, .ref (ad 77)), (1, .int a1), (2, .int a2)]) rfl (fun E hl hD had hcA hN hC hR => ?_)
  subst hl; subst hD; subst had; subst hcA
  unfold zf_X10_put at hf
  refine zw_aload_n hC dX10_put_0 rfl 0 rfl ?_
  refine zw_getr (k' := 78) hC zF_Model_now zk_77 rfl dX10_put_1 kw_5_227 ?_
  refine zw_iload_n hC dX10_put_4 rfl 1 rfl ?_
  refine zw_iald hC hf zk_78 dX10_put_5 (fun v24 hf => ?_)
  refine zw_istore_n hC (lv' := [(3, .int v24), (0, .ref (zad E 77)), (1, .int a1), (2, .int a2)]) dX10_put_6 rfl hN (by decide) rfl ?_
  refine zw_aload_n hC dX10_put_7 rfl 1 rfl ?_
  obtain ⟨M25, hcM25, hf⟩ := zb1_some hf
  refine zw_cV hC [] [] (st1 := []) zm_X10_remembers (zc_X10_remembers hcM25) zk_77 rfl kw_6_209 dX10_put_8 rfl (by decide) (Nat.le_of_ble_eq_true rfl) rfl rfl ?_
  refine zw_aload_n hC dX10_put_11 rfl 1 rfl ?_
  refine zw_getr (k' := 78) hC zF_Model_now zk_77 rfl dX10_put_12 kw_5_227 ?_
  refine zw_iload_n hC dX10_put_15 rfl 2 rfl ?_
  refine zw_iload_n hC dX10_put_16 rfl 3 rfl ?_
  refine zw_iast hC hf zk_78 dX10_put_17 (fun M26 hf => ?_)
  refine zw_iload_n hC dX10_put_18 rfl 0 rfl ?_
  obtain ⟨h1, h2⟩ := Prod.mk.inj (Option.some.inj hf)
  subst h1; subst h2
  exact zw_iret hC hR dX10_put_19
/-! ClassOfManyModel.days(I)I -/
theorem dX10_days_0 : decode cX10_days 0 = .ok (.iload_n 1, 1) := by decide +kernel
theorem dX10_days_1 : decode cX10_days 1 = .ok (.iconst 1, 1) := by decide +kernel
theorem dX10_days_2 : decode cX10_days 2 = .ok (.bipush 30, 2) := by decide +kernel
theorem dX10_days_4 : decode cX10_days 4 = .ok (.invokestatic 65, 3) := by decide +kernel
theorem dX10_days_7 : decode cX10_days 7 = .ok (.ifCond .eq 17, 3) := by decide +kernel
theorem dX10_days_10 : decode cX10_days 10 = .ok (.aload_n 0, 1) := by decide +kernel
theorem dX10_days_11 : decode cX10_days 11 = .ok (.getfield 7, 3) := by decide +kernel
theorem dX10_days_14 : decode cX10_days 14 = .ok (.bipush 8, 2) := by decide +kernel
theorem dX10_days_16 : decode cX10_days 16 = .ok (.iaload, 1) := by decide +kernel
theorem dX10_days_17 : decode cX10_days 17 = .ok (.iload_n 1, 1) := by decide +kernel
theorem dX10_days_18 : decode cX10_days 18 = .ok (.iadd, 1) := by decide +kernel
theorem dX10_days_19 : decode cX10_days 19 = .ok (.bipush 99, 2) := by decide +kernel
theorem dX10_days_21 : decode cX10_days 21 = .ok (.if_icmp .le 5, 3) := by decide +kernel
theorem dX10_days_24 : decode cX10_days 24 = .ok (.iconst (-1), 1) := by decide +kernel
theorem dX10_days_25 : decode cX10_days 25 = .ok (.ireturn, 1) := by decide +kernel
theorem dX10_days_26 : decode cX10_days 26 = .ok (.aload_n 0, 1) := by decide +kernel
theorem dX10_days_27 : decode cX10_days 27 = .ok (.bipush 8, 2) := by decide +kernel
theorem dX10_days_29 : decode cX10_days 29 = .ok (.aload_n 0, 1) := by decide +kernel
theorem dX10_days_30 : decode cX10_days 30 = .ok (.getfield 7, 3) := by decide +kernel
theorem dX10_days_33 : decode cX10_days 33 = .ok (.bipush 8, 2) := by decide +kernel
theorem dX10_days_35 : decode cX10_days 35 = .ok (.iaload, 1) := by decide +kernel
theorem dX10_days_36 : decode cX10_days 36 = .ok (.iload_n 1, 1) := by decide +kernel
theorem dX10_days_37 : decode cX10_days 37 = .ok (.iadd, 1) := by decide +kernel
theorem dX10_days_38 : decode cX10_days 38 = .ok (.invokevirtual 290, 3) := by decide +kernel
theorem dX10_days_41 : decode cX10_days 41 = .ok (.istore_n 2, 1) := by decide +kernel
theorem dX10_days_42 : decode cX10_days 42 = .ok (.aload_n 0, 1) := by decide +kernel
theorem dX10_days_43 : decode cX10_days 43 = .ok (.getfield 7, 3) := by decide +kernel
theorem dX10_days_46 : decode cX10_days 46 = .ok (.bipush 8, 2) := by decide +kernel
theorem dX10_days_48 : decode cX10_days 48 = .ok (.iaload, 1) := by decide +kernel
theorem dX10_days_49 : decode cX10_days 49 = .ok (.ireturn, 1) := by decide +kernel
theorem zm_X10_days : ZMv "ClassOfManyModel" yX10_days cX10_days 3 (some .int) 1 := ⟨kw_6_204, kw_6_202, kw_6_203, kw_1_10, by decide +kernel, by decide⟩
def zf_X10_days_j24 (M : ZMem) : Option (Int32 × ZMem) :=
  some ((-1 : Int32), M)
def zf_X10_days (n : Nat) (a1 : Int32) (M : ZMem) : Option (Int32 × ZMem) :=
  zb1 (zf_X10_isIn a1 (1 : Int32) (30 : Int32)) (fun v27 => (if v27 = 0 then (zf_X10_days_j24 M) else zrd M 78 73 (8 : Int32) (fun v28 => (if (v28 + a1) ≤ (99 : Int32) then zrd M 78 73 (8 : Int32) (fun v29 => zb2 (zf_X10_put n (8 : Int32) (v29 + a1) M) (fun v30 M31 => zrd M31 78 73 (8 : Int32) (fun v32 => some (v32, M31)))) else (zf_X10_days_j24 M)))))
set_option maxHeartbeats 4000000 in
set_option maxRecDepth 100000 in
theorem zc_X10_days {l : Launch} {D : va_G} {ad : Nat → Nat} {cA : Nat → ClassId} {n : Nat} {a1 : Int32} {M : ZMem} {r : Int32} {M' : ZMem} (hf : zf_X10_days n a1 M = some (r, M')) : ZCt l D ad cA yX10_days cX10_days 3 (some .int) 3 [.ref (ad 77), .int a1] M (some (.int r)) M' := by
  refine zct (by decide +kernel) (Nat.le_of_ble_eq_true rfl) (lv := [(0, .ref (ad 77)), (1, .int a1)]) rfl (fun E hl hD had hcA hN hC hR => ?_)
  subst hl; subst hD; subst had; subst hcA
  unfold zf_X10_days at hf
  refine zw_iload_n hC dX10_days_0 rfl 1 rfl ?_
  refine zw_iconst hC (v := (1 : Int32)) dX10_days_1 (by decide) ?_
  refine zw_bipush hC (v := (30 : Int32)) dX10_days_2 (by decide) ?_
  obtain ⟨v27, hc27, hf⟩ := zb1_some hf
  refine zw_cS hC [.int a1, .int (1 : Int32), .int (30 : Int32)] [] (st1 := [.int v27]) zm_X10_isIn (zc_X10_isIn hc27) kw_6_106 dX10_days_4 rfl (by decide) (Nat.le_of_ble_eq_true rfl) rfl rfl ?_
  have hj24 : zf_X10_days_j24 M = some (r, M') → ZW E 24 [] [] M := by
    intro  hf
    unfold zf_X10_days_j24 at hf
    refine zw_iconst hC (v := (-1 : Int32)) dX10_days_24 (by decide) ?_
    obtain ⟨h1, h2⟩ := Prod.mk.inj (Option.some.inj hf)
    subst h1; subst h2
    exact zw_iret hC hR dX10_days_25
  refine zw_if_eq hC 24 hf dX10_days_7 (by decide) (fun hf => ?_) (fun hf => ?_)
  · exact zw_sub [] rfl (hj24 hf)
  · refine zw_aload_n hC dX10_days_10 rfl 0 rfl ?_
    refine zw_getr (k' := 78) hC zF_Model_now zk_77 rfl dX10_days_11 kw_5_227 ?_
    refine zw_bipush hC (v := (8 : Int32)) dX10_days_14 (by decide) ?_
    refine zw_iald hC hf zk_78 dX10_days_16 (fun v28 hf => ?_)
    refine zw_iload_n hC dX10_days_17 rfl 1 rfl ?_
    refine zw_iadd hC dX10_days_18 ?_
    refine zw_bipush hC (v := (99 : Int32)) dX10_days_19 (by decide) ?_
    refine zw_icmp_le hC 26 hf dX10_days_21 (by decide) (fun hf => ?_) (fun hf => ?_)
    · refine zw_aload_n hC dX10_days_26 rfl 0 rfl ?_
      refine zw_bipush hC (v := (8 : Int32)) dX10_days_27 (by decide) ?_
      refine zw_aload_n hC dX10_days_29 rfl 0 rfl ?_
      refine zw_getr (k' := 78) hC zF_Model_now zk_77 rfl dX10_days_30 kw_5_227 ?_
      refine zw_bipush hC (v := (8 : Int32)) dX10_days_33 (by decide) ?_
      refine zw_iald hC hf zk_78 dX10_days_35 (fun v29 hf => ?_)
      refine zw_iload_n hC dX10_days_36 rfl 1 rfl ?_
      refine zw_iadd hC dX10_days_37 ?_
      obtain ⟨v30, M31, hcM31, hf⟩ := zb2_some hf
      refine zw_cV hC [.int (8 : Int32), .int (v29 + a1)] [] (st1 := [.int v30]) zm_X10_put (zc_X10_put hcM31) zk_77 rfl kw_6_205 dX10_days_38 rfl (by decide) (Nat.le_of_ble_eq_true rfl) rfl rfl ?_
      refine zw_istore_n hC (lv' := [(2, .int v30), (0, .ref (zad E 77)), (1, .int a1)]) dX10_days_41 rfl hN (by decide) rfl ?_
      refine zw_aload_n hC dX10_days_42 rfl 1 rfl ?_
      refine zw_getr (k' := 78) hC zF_Model_now zk_77 rfl dX10_days_43 kw_5_227 ?_
      refine zw_bipush hC (v := (8 : Int32)) dX10_days_46 (by decide) ?_
      refine zw_iald hC hf zk_78 dX10_days_48 (fun v32 hf => ?_)
      obtain ⟨h1, h2⟩ := Prod.mk.inj (Option.some.inj hf)
      subst h1; subst h2
      exact zw_iret hC hR dX10_days_49
    · exact zw_sub [] rfl (hj24 hf)
/-! ClassOfManyModel.order(I)I -/
theorem dX10_order_0 : decode cX10_order 0 = .ok (.aload_n 0, 1) := by decide +kernel
theorem dX10_order_1 : decode cX10_order 1 = .ok (.iload_n 1, 1) := by decide +kernel
theorem dX10_order_2 : decode cX10_order 2 = .ok (.invokevirtual 293, 3) := by decide +kernel
theorem dX10_order_5 : decode cX10_order 5 = .ok (.ifCond .eq 24, 3) := by decide +kernel
theorem dX10_order_8 : decode cX10_order 8 = .ok (.iload_n 1, 1) := by decide +kernel
theorem dX10_order_9 : decode cX10_order 9 = .ok (.aload_n 0, 1) := by decide +kernel
theorem dX10_order_10 : decode cX10_order 10 = .ok (.getfield 7, 3) := by decide +kernel
theorem dX10_order_13 : decode cX10_order 13 = .ok (.bipush 10, 2) := by decide +kernel
theorem dX10_order_15 : decode cX10_order 15 = .ok (.iaload, 1) := by decide +kernel
theorem dX10_order_16 : decode cX10_order 16 = .ok (.if_icmp .eq 13, 3) := by decide +kernel
theorem dX10_order_19 : decode cX10_order 19 = .ok (.aload_n 0, 1) := by decide +kernel
theorem dX10_order_20 : decode cX10_order 20 = .ok (.getfield 7, 3) := by decide +kernel
theorem dX10_order_23 : decode cX10_order 23 = .ok (.bipush 11, 2) := by decide +kernel
theorem dX10_order_25 : decode cX10_order 25 = .ok (.iaload, 1) := by decide +kernel
theorem dX10_order_26 : decode cX10_order 26 = .ok (.ifCond .lt 5, 3) := by decide +kernel
theorem dX10_order_29 : decode cX10_order 29 = .ok (.iconst (-1), 1) := by decide +kernel
theorem dX10_order_30 : decode cX10_order 30 = .ok (.ireturn, 1) := by decide +kernel
theorem dX10_order_31 : decode cX10_order 31 = .ok (.aload_n 0, 1) := by decide +kernel
theorem dX10_order_32 : decode cX10_order 32 = .ok (.bipush 10, 2) := by decide +kernel
theorem dX10_order_34 : decode cX10_order 34 = .ok (.iload_n 1, 1) := by decide +kernel
theorem dX10_order_35 : decode cX10_order 35 = .ok (.invokevirtual 290, 3) := by decide +kernel
theorem dX10_order_38 : decode cX10_order 38 = .ok (.ireturn, 1) := by decide +kernel
theorem zm_X10_order : ZMv "ClassOfManyModel" yX10_order cX10_order 2 (some .int) 1 := ⟨kw_6_216, kw_6_214, kw_6_215, kw_1_10, by decide +kernel, by decide⟩
def zf_X10_order_j29 (M : ZMem) : Option (Int32 × ZMem) :=
  some ((-1 : Int32), M)
def zf_X10_order (n : Nat) (a1 : Int32) (M : ZMem) : Option (Int32 × ZMem) :=
  zb1 (zf_X10_isOrder n a1 M) (fun v26 => (if v26 = 0 then (zf_X10_order_j29 M) else zrd M 78 73 (10 : Int32) (fun v27 => (if a1 = v27 then (zf_X10_order_j29 M) else zrd M 78 73 (11 : Int32) (fun v28 => (if v28 < 0 then zb2 (zf_X10_put n (10 : Int32) a1 M) (fun v29 M30 => some (v29, M30)) else (zf_X10_order_j29 M)))))))
set_option maxHeartbeats 4000000 in
set_option maxRecDepth 100000 in
theorem zc_X10_order {l : Launch} {D : va_G} {ad : Nat → Nat} {cA : Nat → ClassId} {n : Nat} {a1 : Int32} {M : ZMem} {r : Int32} {M' : ZMem} (hf : zf_X10_order n a1 M = some (r, M')) : ZCt l D ad cA yX10_order cX10_order 2 (some .int) 3 [.ref (ad 77), .int a1] M (some (.int r)) M' := by
  refine zct (by decide +kernel) (Nat.le_of_ble_eq_true rfl) (lv := [(0, .ref (ad 77)), (1, .int a1)]) rfl (fun E hl hD had hcA hN hC hR => ?_)
  subst hl; subst hD; subst had; subst hcA
  unfold zf_X10_order at hf
  refine zw_aload_n hC dX10_order_0 rfl 0 rfl ?_
  refine zw_iload_n hC dX10_order_1 rfl 1 rfl ?_
  obtain ⟨v26, hc26, hf⟩ := zb1_some hf
  refine zw_cV hC [.int a1] [] (st1 := [.int v26]) zm_X10_isOrder (zc_X10_isOrder hc26) zk_77 rfl kw_6_217 dX10_order_2 rfl (by decide) (Nat.le_of_ble_eq_true rfl) rfl rfl ?_
  have hj29 : zf_X10_order_j29 M = some (r, M') → ZW E 29 [] [] M := by
    intro  hf
    unfold zf_X10_order_j29 at hf
    refine zw_iconst hC (v := (-1 : Int32)) dX10_order_29 (by decide) ?_
    obtain ⟨h1, h2⟩ := Prod.mk.inj (Option.some.inj hf)
    subst h1; subst h2
    exact zw_iret hC hR dX10_order_30
  refine zw_if_eq hC 29 hf dX10_order_5 (by decide) (fun hf => ?_) (fun hf => ?_)
  · exact zw_sub [] rfl (hj29 hf)
  · refine zw_iload_n hC dX10_order_8 rfl 1 rfl ?_
    refine zw_aload_n hC dX10_order_9 rfl 0 rfl ?_
    refine zw_getr (k' := 78) hC zF_Model_now zk_77 rfl dX10_order_10 kw_5_227 ?_
    refine zw_bipush hC (v := (10 : Int32)) dX10_order_13 (by decide) ?_
    refine zw_iald hC hf zk_78 dX10_order_15 (fun v27 hf => ?_)
    refine zw_icmp_eq hC 29 hf dX10_order_16 (by decide) (fun hf => ?_) (fun hf => ?_)
    · exact zw_sub [] rfl (hj29 hf)
    · refine zw_aload_n hC dX10_order_19 rfl 0 rfl ?_
      refine zw_getr (k' := 78) hC zF_Model_now zk_77 rfl dX10_order_20 kw_5_227 ?_
      refine zw_bipush hC (v := (11 : Int32)) dX10_order_23 (by decide) ?_
      refine zw_iald hC hf zk_78 dX10_order_25 (fun v28 hf => ?_)
      refine zw_if_lt hC 31 hf dX10_order_26 (by decide) (fun hf => ?_) (fun hf => ?_)
      · refine zw_aload_n hC dX10_order_31 rfl 0 rfl ?_
        refine zw_bipush hC (v := (10 : Int32)) dX10_order_32 (by decide) ?_
        refine zw_iload_n hC dX10_order_34 rfl 1 rfl ?_
        obtain ⟨v29, M30, hcM30, hf⟩ := zb2_some hf
        refine zw_cV hC [.int (10 : Int32), .int a1] [] (st1 := [.int v29]) zm_X10_put (zc_X10_put hcM30) zk_77 rfl kw_6_205 dX10_order_35 rfl (by decide) (Nat.le_of_ble_eq_true rfl) rfl rfl ?_
        obtain ⟨h1, h2⟩ := Prod.mk.inj (Option.some.inj hf)
        subst h1; subst h2
        exact zw_iret hC hR dX10_order_38
      · exact zw_sub [] rfl (hj29 hf)
